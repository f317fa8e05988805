def p_Md_reads : mm_P := ([(0, .iload_n 1, 1, 0), (1, .ifCond .ne 18, 3, 0), (4, .aload_n 0, 1, 0), (5, .iconst 0, 1, 0), (6, .aload_n 0, 1, 0), (7, .iconst 2, 1, 2), (8, .bipush 8, 2, 8), (10, .invokevirtual 194, 3, 0), (13, .invokevirtual 220, 3, 0), (16, .goto 66, 3, 0), (19, .iload_n 1, 1, 0), (20, .iconst 1, 1, 1), (21, .if_icmp .ne 18, 3, 0), (24, .aload_n 0, 1, 0), (25, .iconst 1, 1, 1), (26, .aload_n 0, 1, 0), (27, .iconst 1, 1, 1), (28, .bipush 8, 2, 8), (30, .invokevirtual 194, 3, 0), (33, .invokevirtual 220, 3, 0), (36, .goto 46, 3, 0), (39, .iload_n 1, 1, 0), (40, .iconst 2, 1, 2), (41, .if_icmp .ne 10, 3, 0), (44, .aload_n 0, 1, 0), (45, .invokevirtual 227, 3, 0), (48, .goto 34, 3, 0), (51, .iload_n 1, 1, 0), (52, .iconst 3, 1, 3), (53, .if_icmp .ne 10, 3, 0), (56, .aload_n 0, 1, 0), (57, .invokevirtual 230, 3, 0), (60, .goto 22, 3, 0), (63, .iload_n 1, 1, 0), (64, .iconst 4, 1, 4), (65, .if_icmp .ne 10, 3, 0), (68, .aload_n 0, 1, 0), (69, .invokevirtual 233, 3, 0), (72, .goto 10, 3, 0), (75, .aload_n 0, 1, 0), (76, .iload_n 1, 1, 0), (77, .iconst 5, 1, 5), (78, .isub, 1, 0), (79, .invokevirtual 236, 3, 0), (82, .return_, 1, 0)], [], [(194, 0, 2, 1, f_Md_takeNumber), (220, 0, 2, 0, f_Md_is), (227, 0, 0, 0, f_Md_readIndex), (230, 0, 0, 0, f_Md_readRow), (233, 0, 0, 0, f_Md_readPoint), (236, 0, 1, 0, f_Md_readWhere)], [], [], [(0, [0, 1])], [], 0)
def f_Md_reads : mm_F := fun args h => mm_ga [1, 1] args (mm_gd 12 args h (mm_run p_Md_reads (mm_fu + 1) 0 args [] h))
set_option maxRecDepth 100000 in
theorem e_Md_reads_0 (f : Nat) (t : Nat) (v1 : Int32) (h : mm_H) : mm_run p_Md_reads (f + 1) 0 [.ref t, .int v1] [] h =
  if v1 = 0 then
    mm_ci (f_Md_takeNumber [.ref t, .int 2, .int 8] h) fun x2 h1 =>
    mm_cv (f_Md_is [.ref t, .int 0, .int x2] h1) fun h3 =>
    some (none, h3)
  else
    if v1 = 1 then
      mm_ci (f_Md_takeNumber [.ref t, .int 1, .int 8] h) fun x5 h4 =>
      mm_cv (f_Md_is [.ref t, .int 1, .int x5] h4) fun h6 =>
      some (none, h6)
    else
      if v1 = 2 then
        mm_cv (f_Md_readIndex [.ref t] h) fun h7 =>
        some (none, h7)
      else
        if v1 = 3 then
          mm_cv (f_Md_readRow [.ref t] h) fun h8 =>
          some (none, h8)
        else
          if v1 = 4 then
            mm_cv (f_Md_readPoint [.ref t] h) fun h9 =>
            some (none, h9)
          else
            mm_cv (f_Md_readWhere [.ref t, .int (v1 - 5)] h) fun h10 =>
            some (none, h10) := rfl
theorem e_Md_reads (t : Nat) (v1 : Int32) (h : mm_H) {fs : List Value} (hb : h t = some (.inr (12, fs))) : f_Md_reads [.ref t, .int v1] h =
  if v1 = 0 then
    mm_ci (f_Md_takeNumber [.ref t, .int 2, .int 8] h) fun x2 h1 =>
    mm_cv (f_Md_is [.ref t, .int 0, .int x2] h1) fun h3 =>
    some (none, h3)
  else
    if v1 = 1 then
      mm_ci (f_Md_takeNumber [.ref t, .int 1, .int 8] h) fun x5 h4 =>
      mm_cv (f_Md_is [.ref t, .int 1, .int x5] h4) fun h6 =>
      some (none, h6)
    else
      if v1 = 2 then
        mm_cv (f_Md_readIndex [.ref t] h) fun h7 =>
        some (none, h7)
      else
        if v1 = 3 then
          mm_cv (f_Md_readRow [.ref t] h) fun h8 =>
          some (none, h8)
        else
          if v1 = 4 then
            mm_cv (f_Md_readPoint [.ref t] h) fun h9 =>
            some (none, h9)
          else
            mm_cv (f_Md_readWhere [.ref t, .int (v1 - 5)] h) fun h10 =>
            some (none, h10) := (mm_ga_is rfl).trans ((mm_gd_is hb).trans (e_Md_reads_0 mm_fu t v1 h))
set_option maxRecDepth 100000 in
theorem i_Md_reads (l : Launch) : mm_Imp l yX12_reads cX12_reads 2 none 8 f_Md_reads := mm_imp l (P := p_Md_reads) mm_cls_ok mm_sys_ok (by decide) (mm_Pok_of (fun _ h => absurd h List.not_mem_nil) (List.forall_mem_cons.mpr ⟨v_Md_takeNumber l q_1968 (by decide), (List.forall_mem_cons.mpr ⟨v_Md_is l q_1960 (by decide), (List.forall_mem_cons.mpr ⟨v_Md_readIndex l q_1972 (by decide), (List.forall_mem_cons.mpr ⟨v_Md_readRow l q_1996 (by decide), (List.forall_mem_cons.mpr ⟨v_Md_readPoint l q_2007 (by decide), (List.forall_mem_cons.mpr ⟨v_Md_readWhere l q_2011 (by decide), (fun _ h => absurd h List.not_mem_nil)⟩)⟩)⟩)⟩)⟩)⟩) (fun _ h => absurd h List.not_mem_nil) (fun _ h => absurd h List.not_mem_nil)) (by decide +kernel) rfl (cats := [1, 1]) (fun as h r e => ⟨(mm_ga_inv e).1, (mm_gd_inv (mm_ga_inv e).2).1⟩) rfl (by decide)
theorem v_Md_reads (l : Launch) {own : String} {i n0 : Nat} (hl : Cond.methodLink own i yX12_reads ∈ mm_tbl) (hn : 9 ≤ n0) : mm_cok l own n0 i (0, 1, 0, f_Md_reads) := Or.inr (Or.inr ⟨rfl, yX12_reads, cX12_reads, 2, none, 8, 12, TX12, 27, i_Md_reads l, hn, by decide, by decide +kernel, rfl, fun _ _ _ e => (mm_gd_inv (mm_ga_inv e).2).2, hl, q_1966, q_81, q_179, q_1967⟩)
def p_Md_readLine : mm_P := ([(0, .aload_n 0, 1, 0), (1, .iconst 0, 1, 0), (2, .bipush 7, 2, 7), (4, .invokevirtual 198, 3, 0), (7, .istore_n 1, 1, 0), (8, .iload_n 1, 1, 0), (9, .ifCond .eq 19, 3, 0), (12, .iload_n 1, 1, 0), (13, .iconst 1, 1, 1), (14, .if_icmp .eq 14, 3, 0), (17, .iload_n 1, 1, 0), (18, .iconst 5, 1, 5), (19, .if_icmp .eq 9, 3, 0), (22, .iload_n 1, 1, 0), (23, .bipush 6, 2, 6), (25, .if_icmp .ne 7, 3, 0), (28, .iconst 1, 1, 1), (29, .goto 4, 3, 0), (32, .iconst 0, 1, 0), (33, .istore_n 2, 1, 0), (34, .iconst 5, 1, 5), (35, .iload_n 1, 1, 0), (36, .iconst 1, 1, 1), (37, .if_icmp .gt 7, 3, 0), (40, .iload_n 1, 1, 0), (41, .goto 8, 3, 0), (44, .iload_n 1, 1, 0), (45, .iconst 5, 1, 5), (46, .isub, 1, 0), (47, .iconst 2, 1, 2), (48, .iadd, 1, 0), (49, .iadd, 1, 0), (50, .istore_n 3, 1, 0), (51, .iload_n 1, 1, 0), (52, .ifCond .lt 16, 3, 0), (55, .iload_n 1, 1, 0), (56, .iconst 2, 1, 2), (57, .if_icmp .ne 19, 3, 0), (60, .aload_n 0, 1, 0), (61, .iconst 3, 1, 3), (62, .invokevirtual 217, 3, 0), (65, .ifCond .le 11, 3, 0), (68, .aload_n 0, 1, 0), (69, .iconst 1, 1, 1), (70, .invokevirtual 181, 3, 0), (73, .goto 72, 3, 0), (76, .iload_n 2, 1, 0), (77, .ifCond .eq 19, 3, 0), (80, .aload_n 0, 1, 0), (81, .iload_n 3, 1, 0), (82, .invokevirtual 217, 3, 0), (85, .ifCond .le 11, 3, 0), (88, .aload_n 0, 1, 0), (89, .iconst 3, 1, 3), (90, .invokevirtual 181, 3, 0), (93, .goto 52, 3, 0), (96, .iload_n 1, 1, 0), (97, .iconst 2, 1, 2), (98, .if_icmp .ne 12, 3, 0), (101, .aload_n 0, 1, 0), (102, .iconst 2, 1, 2), (103, .invokevirtual 217, 3, 0), (106, .iconst 4, 1, 4), (107, .if_icmp .eq 33, 3, 0), (110, .iload_n 1, 1, 0), (111, .iconst 3, 1, 3), (112, .if_icmp .ne 13, 3, 0), (115, .aload_n 0, 1, 0), (116, .iconst 3, 1, 3), (117, .invokevirtual 217, 3, 0), (120, .bipush 20, 2, 20), (122, .if_icmp .eq 18, 3, 0), (125, .iload_n 1, 1, 0), (126, .iconst 4, 1, 4), (127, .if_icmp .ne 18, 3, 0), (130, .aload_n 0, 1, 0), (131, .iconst 4, 1, 4), (132, .invokevirtual 217, 3, 0), (135, .bipush 8, 2, 8), (137, .if_icmp .ne 8, 3, 0), (140, .aload_n 0, 1, 0), (141, .iconst 5, 1, 5), (142, .invokevirtual 181, 3, 0), (145, .aload_n 0, 1, 0), (146, .getfield 175, 3, 0), (149, .ifCond .le 4, 3, 0), (152, .return_, 1, 0), (153, .aload_n 0, 1, 0), (154, .dup, 1, 0), (155, .getfield 172, 3, 0), (158, .iconst 1, 1, 1), (159, .iadd, 1, 0), (160, .putfield 172, 3, 0), (163, .iload_n 2, 1, 0), (164, .ifCond .eq 9, 3, 0), (167, .aload_n 0, 1, 0), (168, .iload_n 3, 1, 0), (169, .iconst 1, 1, 1), (170, .invokevirtual 220, 3, 0), (173, .aload_n 0, 1, 0), (174, .iload_n 1, 1, 0), (175, .invokevirtual 224, 3, 0), (178, .return_, 1, 0)], [(172, 12, 7, 0), (175, 12, 8, 0)], [(181, 0, 1, 0, f_Md_wrong), (198, 0, 2, 1, f_Md_wordHere), (217, 0, 1, 1, f_Md_told), (220, 0, 2, 0, f_Md_is), (224, 0, 1, 0, f_Md_reads)], [], [], [(0, [0]), (33, [0, 1]), (76, [0, 1, 2, 3]), (110, [0, 1, 2, 3]), (145, [0, 1, 2, 3])], [], 0)
def f_Md_readLine : mm_F := fun args h => mm_ga [1] args (mm_gd 12 args h (mm_run p_Md_readLine (mm_fu + 1) 0 args [] h))
set_option maxRecDepth 100000 in
theorem e_Md_readLine_0 (f : Nat) (t : Nat) (h : mm_H) : mm_run p_Md_readLine (f + 1) 0 [.ref t] [] h =
  mm_ci (f_Md_wordHere [.ref t, .int 0, .int 7] h) fun x2 h1 =>
  if x2 = 0 then
    mm_run p_Md_readLine f 33 [.ref t, .int x2] [.int 1] h1
  else
    if x2 = 1 then
      mm_run p_Md_readLine f 33 [.ref t, .int x2] [.int 1] h1
    else
      if x2 = 5 then
        mm_run p_Md_readLine f 33 [.ref t, .int x2] [.int 1] h1
      else
        if x2 = 6 then
          mm_run p_Md_readLine f 33 [.ref t, .int x2] [.int 1] h1
        else
          mm_run p_Md_readLine f 33 [.ref t, .int x2] [.int 0] h1 := rfl
theorem e_Md_readLine (t : Nat) (h : mm_H) {fs : List Value} (hb : h t = some (.inr (12, fs))) : f_Md_readLine [.ref t] h =
  mm_ci (f_Md_wordHere [.ref t, .int 0, .int 7] h) fun x2 h1 =>
  if x2 = 0 then
    mm_run p_Md_readLine mm_fu 33 [.ref t, .int x2] [.int 1] h1
  else
    if x2 = 1 then
      mm_run p_Md_readLine mm_fu 33 [.ref t, .int x2] [.int 1] h1
    else
      if x2 = 5 then
        mm_run p_Md_readLine mm_fu 33 [.ref t, .int x2] [.int 1] h1
      else
        if x2 = 6 then
          mm_run p_Md_readLine mm_fu 33 [.ref t, .int x2] [.int 1] h1
        else
          mm_run p_Md_readLine mm_fu 33 [.ref t, .int x2] [.int 0] h1 := (mm_ga_is rfl).trans ((mm_gd_is hb).trans (e_Md_readLine_0 mm_fu t h))
set_option maxRecDepth 100000 in
theorem e_Md_readLine_33 (f : Nat) (t : Nat) (v1 : Int32) (s0 : Int32) (h : mm_H) : mm_run p_Md_readLine (f + 1) 33 [.ref t, .int v1] [.int s0] h =
  if (1 : Int32) < v1 then
    if v1 < 0 then
      mm_cv (f_Md_wrong [.ref t, .int 1] h) fun h1 =>
      mm_run p_Md_readLine f 145 [.ref t, .int v1, .int s0, .int (5 + ((v1 - 5) + 2))] [] h1
    else
      if v1 = 2 then
        mm_ci (f_Md_told [.ref t, .int 3] h) fun x3 h2 =>
        if (0 : Int32) < x3 then
          mm_cv (f_Md_wrong [.ref t, .int 1] h2) fun h4 =>
          mm_run p_Md_readLine f 145 [.ref t, .int v1, .int s0, .int (5 + ((v1 - 5) + 2))] [] h4
        else
          mm_run p_Md_readLine f 76 [.ref t, .int v1, .int s0, .int (5 + ((v1 - 5) + 2))] [] h2
      else
        mm_run p_Md_readLine f 76 [.ref t, .int v1, .int s0, .int (5 + ((v1 - 5) + 2))] [] h
  else
    if v1 < 0 then
      mm_cv (f_Md_wrong [.ref t, .int 1] h) fun h5 =>
      mm_run p_Md_readLine f 145 [.ref t, .int v1, .int s0, .int (5 + v1)] [] h5
    else
      if v1 = 2 then
        mm_ci (f_Md_told [.ref t, .int 3] h) fun x7 h6 =>
        if (0 : Int32) < x7 then
          mm_cv (f_Md_wrong [.ref t, .int 1] h6) fun h8 =>
          mm_run p_Md_readLine f 145 [.ref t, .int v1, .int s0, .int (5 + v1)] [] h8
        else
          mm_run p_Md_readLine f 76 [.ref t, .int v1, .int s0, .int (5 + v1)] [] h6
      else
        mm_run p_Md_readLine f 76 [.ref t, .int v1, .int s0, .int (5 + v1)] [] h := rfl
set_option maxRecDepth 100000 in
theorem e_Md_readLine_76 (f : Nat) (t : Nat) (v1 : Int32) (v2 : Int32) (v3 : Int32) (h : mm_H) : mm_run p_Md_readLine (f + 1) 76 [.ref t, .int v1, .int v2, .int v3] [] h =
  if v2 = 0 then
    if v1 = 2 then
      mm_ci (f_Md_told [.ref t, .int 2] h) fun x2 h1 =>
      if x2 = 4 then
        mm_cv (f_Md_wrong [.ref t, .int 5] h1) fun h3 =>
        mm_run p_Md_readLine f 145 [.ref t, .int v1, .int v2, .int v3] [] h3
      else
        mm_run p_Md_readLine f 110 [.ref t, .int v1, .int v2, .int v3] [] h1
    else
      mm_run p_Md_readLine f 110 [.ref t, .int v1, .int v2, .int v3] [] h
  else
    mm_ci (f_Md_told [.ref t, .int v3] h) fun x5 h4 =>
    if (0 : Int32) < x5 then
      mm_cv (f_Md_wrong [.ref t, .int 3] h4) fun h6 =>
      mm_run p_Md_readLine f 145 [.ref t, .int v1, .int v2, .int v3] [] h6
    else
      if v1 = 2 then
        mm_ci (f_Md_told [.ref t, .int 2] h4) fun x8 h7 =>
        if x8 = 4 then
          mm_cv (f_Md_wrong [.ref t, .int 5] h7) fun h9 =>
          mm_run p_Md_readLine f 145 [.ref t, .int v1, .int v2, .int v3] [] h9
        else
          mm_run p_Md_readLine f 110 [.ref t, .int v1, .int v2, .int v3] [] h7
      else
        mm_run p_Md_readLine f 110 [.ref t, .int v1, .int v2, .int v3] [] h4 := rfl
set_option maxRecDepth 100000 in
theorem e_Md_readLine_145 (f : Nat) (t : Nat) (v1 : Int32) (v2 : Int32) (v3 : Int32) (h : mm_H) : mm_run p_Md_readLine (f + 1) 145 [.ref t, .int v1, .int v2, .int v3] [] h =
  (mm_gi 12 8 h t).bind fun x1 =>
  if (0 : Int32) < x1 then
    some (none, h)
  else
    (mm_gi 12 7 h t).bind fun x2 =>
    (mm_pf 12 7 (.int (x2 + 1)) h t).bind fun h3 =>
    if v2 = 0 then
      mm_cv (f_Md_reads [.ref t, .int v1] h3) fun h4 =>
      some (none, h4)
    else
      mm_cv (f_Md_is [.ref t, .int v3, .int 1] h3) fun h5 =>
      mm_cv (f_Md_reads [.ref t, .int v1] h5) fun h6 =>
      some (none, h6) := rfl
set_option maxRecDepth 100000 in
theorem e_Md_readLine_110 (f : Nat) (t : Nat) (v1 : Int32) (v2 : Int32) (v3 : Int32) (h : mm_H) : mm_run p_Md_readLine (f + 1) 110 [.ref t, .int v1, .int v2, .int v3] [] h =
  if v1 = 3 then
    mm_ci (f_Md_told [.ref t, .int 3] h) fun x2 h1 =>
    if x2 = 20 then
      mm_cv (f_Md_wrong [.ref t, .int 5] h1) fun h3 =>
      mm_run p_Md_readLine f 145 [.ref t, .int v1, .int v2, .int v3] [] h3
    else
      if v1 = 4 then
        mm_ci (f_Md_told [.ref t, .int 4] h1) fun x5 h4 =>
        if x5 = 8 then
          mm_cv (f_Md_wrong [.ref t, .int 5] h4) fun h6 =>
          mm_run p_Md_readLine f 145 [.ref t, .int v1, .int v2, .int v3] [] h6
        else
          mm_run p_Md_readLine f 145 [.ref t, .int v1, .int v2, .int v3] [] h4
      else
        mm_run p_Md_readLine f 145 [.ref t, .int v1, .int v2, .int v3] [] h1
  else
    if v1 = 4 then
      mm_ci (f_Md_told [.ref t, .int 4] h) fun x8 h7 =>
      if x8 = 8 then
        mm_cv (f_Md_wrong [.ref t, .int 5] h7) fun h9 =>
        mm_run p_Md_readLine f 145 [.ref t, .int v1, .int v2, .int v3] [] h9
      else
        mm_run p_Md_readLine f 145 [.ref t, .int v1, .int v2, .int v3] [] h7
    else
      mm_run p_Md_readLine f 145 [.ref t, .int v1, .int v2, .int v3] [] h := rfl
set_option maxRecDepth 100000 in
theorem i_Md_readLine (l : Launch) : mm_Imp l yX12_readLine cX12_readLine 4 none 9 f_Md_readLine := mm_imp l (P := p_Md_readLine) mm_cls_ok mm_sys_ok (by decide) (mm_Pok_of (List.forall_mem_cons.mpr ⟨k_X12_172, (List.forall_mem_cons.mpr ⟨k_X12_175, (fun _ h => absurd h List.not_mem_nil)⟩)⟩) (List.forall_mem_cons.mpr ⟨v_Md_wrong l q_1956 (by decide), (List.forall_mem_cons.mpr ⟨v_Md_wordHere l q_1944 (by decide), (List.forall_mem_cons.mpr ⟨v_Md_told l q_1952 (by decide), (List.forall_mem_cons.mpr ⟨v_Md_is l q_1960 (by decide), (List.forall_mem_cons.mpr ⟨v_Md_reads l q_1964 (by decide), (fun _ h => absurd h List.not_mem_nil)⟩)⟩)⟩)⟩)⟩) (fun _ h => absurd h List.not_mem_nil) (fun _ h => absurd h List.not_mem_nil)) (by decide +kernel) rfl (cats := [1]) (fun as h r e => ⟨(mm_ga_inv e).1, (mm_gd_inv (mm_ga_inv e).2).1⟩) rfl (by decide)
theorem v_Md_readLine (l : Launch) {own : String} {i n0 : Nat} (hl : Cond.methodLink own i yX12_readLine ∈ mm_tbl) (hn : 10 ≤ n0) : mm_cok l own n0 i (0, 0, 0, f_Md_readLine) := Or.inr (Or.inr ⟨rfl, yX12_readLine, cX12_readLine, 4, none, 9, 12, TX12, 27, i_Md_readLine l, hn, by decide, by decide +kernel, rfl, fun _ _ _ e => (mm_gd_inv (mm_ga_inv e).2).2, hl, q_1942, q_75, q_179, q_1943⟩)
def p_Md_table : mm_P := ([(0, .aload_n 0, 1, 0), (1, .iconst 0, 1, 0), (2, .putfield 1, 3, 0), (5, .aload_n 0, 1, 0), (6, .invokevirtual 208, 3, 0), (9, .aload_n 0, 1, 0), (10, .bipush 53, 2, 53), (12, .invokevirtual 142, 3, 0), (15, .aload_n 0, 1, 0), (16, .getfield 114, 3, 0), (19, .sipush 146, 3, 146), (22, .iconst 0, 1, 0), (23, .iastore, 1, 0), (24, .aload_n 0, 1, 0), (25, .getfield 114, 3, 0), (28, .sipush 219, 3, 219), (31, .iconst 0, 1, 0), (32, .iastore, 1, 0), (33, .aload_n 0, 1, 0), (34, .getfield 175, 3, 0), (37, .ifCond .ne 28, 3, 0), (40, .aload_n 0, 1, 0), (41, .getfield 24, 3, 0), (44, .aload_n 0, 1, 0), (45, .getfield 172, 3, 0), (48, .iaload, 1, 0), (49, .ifCond .eq 16, 3, 0), (52, .aload_n 0, 1, 0), (53, .invokevirtual 211, 3, 0), (56, .aload_n 0, 1, 0), (57, .bipush 59, 2, 59), (59, .invokevirtual 214, 3, 0), (62, .goto (-29), 3, 0), (65, .aload_n 0, 1, 0), (66, .getfield 175, 3, 0), (69, .ifCond .le 8, 3, 0), (72, .aload_n 0, 1, 0), (73, .getfield 175, 3, 0), (76, .ireturn, 1, 0), (77, .iconst 0, 1, 0), (78, .istore_n 1, 1, 0), (79, .iload_n 1, 1, 0), (80, .bipush 53, 2, 53), (82, .if_icmp .ge 24, 3, 0), (85, .aload_n 0, 1, 0), (86, .getfield 111, 3, 0), (89, .iload_n 1, 1, 0), (90, .aload_n 0, 1, 0), (91, .getfield 111, 3, 0), (94, .bipush 53, 2, 53), (96, .iload_n 1, 1, 0), (97, .iadd, 1, 0), (98, .iaload, 1, 0), (99, .iastore, 1, 0), (100, .iinc 1 1, 3, 1), (103, .goto (-24), 3, 0), (106, .iconst 0, 1, 0), (107, .istore_n 1, 1, 0), (108, .iload_n 1, 1, 0), (109, .sipush 146, 3, 146), (112, .if_icmp .ge 25, 3, 0), (115, .aload_n 0, 1, 0), (116, .getfield 114, 3, 0), (119, .iload_n 1, 1, 0), (120, .aload_n 0, 1, 0), (121, .getfield 114, 3, 0), (124, .sipush 146, 3, 146), (127, .iload_n 1, 1, 0), (128, .iadd, 1, 0), (129, .iaload, 1, 0), (130, .iastore, 1, 0), (131, .iinc 1 1, 3, 1), (134, .goto (-26), 3, 0), (137, .iconst 0, 1, 0), (138, .istore_n 1, 1, 0), (139, .iload_n 1, 1, 0), (140, .iconst 4, 1, 4), (141, .if_icmp .ge 23, 3, 0), (144, .aload_n 0, 1, 0), (145, .getfield 117, 3, 0), (148, .iload_n 1, 1, 0), (149, .aload_n 0, 1, 0), (150, .getfield 117, 3, 0), (153, .iconst 4, 1, 4), (154, .iload_n 1, 1, 0), (155, .iadd, 1, 0), (156, .laload, 1, 0), (157, .lastore, 1, 0), (158, .iinc 1 1, 3, 1), (161, .goto (-22), 3, 0), (164, .aload_n 0, 1, 0), (165, .invokevirtual 146, 3, 0), (168, .iconst 0, 1, 0), (169, .ireturn, 1, 0)], [(1, 12, 0, 0), (24, 12, 4, 4), (111, 12, 10, 4), (114, 12, 11, 4), (117, 12, 12, 4), (172, 12, 7, 0), (175, 12, 8, 0)], [(142, 0, 1, 0, f_Md_standsAsAlways), (146, 0, 0, 0, f_Md_begins), (208, 0, 0, 0, f_Md_cutAll), (211, 0, 0, 0, f_Md_readLine), (214, 0, 1, 0, f_Md_takeSign)], [], [], [(0, [0]), (33, [0]), (79, [0, 1]), (108, [0, 1]), (139, [0, 1])], [], 2)
def f_Md_table : mm_F := fun args h => mm_ga [1] args (mm_gd 12 args h (mm_run p_Md_table (mm_fu + 1) 0 args [] h))
set_option maxRecDepth 100000 in
theorem e_Md_table_0 (f : Nat) (t : Nat) (h : mm_H) : mm_run p_Md_table (f + 1) 0 [.ref t] [] h =
  (mm_pf 12 0 (.int 0) h t).bind fun h1 =>
  mm_cv (f_Md_cutAll [.ref t] h1) fun h2 =>
  mm_cv (f_Md_standsAsAlways [.ref t, .int 53] h2) fun h3 =>
  (mm_gr 12 11 h3 t).bind fun r4 =>
  (mm_si h3 r4 146 0).bind fun h5 =>
  (mm_gr 12 11 h5 t).bind fun r6 =>
  (mm_si h5 r6 219 0).bind fun h7 =>
  mm_run p_Md_table f 33 [.ref t] [] h7 := rfl
theorem e_Md_table (t : Nat) (h : mm_H) {fs : List Value} (hb : h t = some (.inr (12, fs))) : f_Md_table [.ref t] h =
  (mm_pf 12 0 (.int 0) h t).bind fun h1 =>
  mm_cv (f_Md_cutAll [.ref t] h1) fun h2 =>
  mm_cv (f_Md_standsAsAlways [.ref t, .int 53] h2) fun h3 =>
  (mm_gr 12 11 h3 t).bind fun r4 =>
  (mm_si h3 r4 146 0).bind fun h5 =>
  (mm_gr 12 11 h5 t).bind fun r6 =>
  (mm_si h5 r6 219 0).bind fun h7 =>
  mm_run p_Md_table mm_fu 33 [.ref t] [] h7 := (mm_ga_is rfl).trans ((mm_gd_is hb).trans (e_Md_table_0 mm_fu t h))
set_option maxRecDepth 100000 in
theorem e_Md_table_33 (f : Nat) (t : Nat) (h : mm_H) : mm_run p_Md_table (f + 1) 33 [.ref t] [] h =
  (mm_gi 12 8 h t).bind fun x1 =>
  if x1 = 0 then
    (mm_gr 12 4 h t).bind fun r2 =>
    (mm_gi 12 7 h t).bind fun x3 =>
    (mm_li h r2 x3).bind fun x4 =>
    if x4 = 0 then
      (mm_gi 12 8 h t).bind fun x5 =>
      if (0 : Int32) < x5 then
        (mm_gi 12 8 h t).bind fun x6 =>
        some (some (.int x6), h)
      else
        mm_run p_Md_table f 79 [.ref t, .int 0] [] h
    else
      mm_cv (f_Md_readLine [.ref t] h) fun h7 =>
      mm_cv (f_Md_takeSign [.ref t, .int 59] h7) fun h8 =>
      mm_run p_Md_table f 33 [.ref t] [] h8
  else
    (mm_gi 12 8 h t).bind fun x9 =>
    if (0 : Int32) < x9 then
      (mm_gi 12 8 h t).bind fun x10 =>
      some (some (.int x10), h)
    else
      mm_run p_Md_table f 79 [.ref t, .int 0] [] h := rfl
set_option maxRecDepth 100000 in
theorem e_Md_table_79 (f : Nat) (t : Nat) (v1 : Int32) (h : mm_H) : mm_run p_Md_table (f + 1) 79 [.ref t, .int v1] [] h =
  if v1 < 53 then
    (mm_gr 12 10 h t).bind fun r1 =>
    (mm_gr 12 10 h t).bind fun r2 =>
    (mm_li h r2 (53 + v1)).bind fun x3 =>
    (mm_si h r1 v1 x3).bind fun h4 =>
    mm_run p_Md_table f 79 [.ref t, .int (v1 + 1)] [] h4
  else
    mm_run p_Md_table f 108 [.ref t, .int 0] [] h := rfl
set_option maxRecDepth 100000 in
theorem e_Md_table_108 (f : Nat) (t : Nat) (v1 : Int32) (h : mm_H) : mm_run p_Md_table (f + 1) 108 [.ref t, .int v1] [] h =
  if v1 < 146 then
    (mm_gr 12 11 h t).bind fun r1 =>
    (mm_gr 12 11 h t).bind fun r2 =>
    (mm_li h r2 (146 + v1)).bind fun x3 =>
    (mm_si h r1 v1 x3).bind fun h4 =>
    mm_run p_Md_table f 108 [.ref t, .int (v1 + 1)] [] h4
  else
    mm_run p_Md_table f 139 [.ref t, .int 0] [] h := rfl
set_option maxRecDepth 100000 in
theorem e_Md_table_139 (f : Nat) (t : Nat) (v1 : Int32) (h : mm_H) : mm_run p_Md_table (f + 1) 139 [.ref t, .int v1] [] h =
  if v1 < 4 then
    (mm_gr 12 12 h t).bind fun r1 =>
    (mm_gr 12 12 h t).bind fun r2 =>
    (mm_ll h r2 (4 + v1)).bind fun l3 =>
    (mm_sl h r1 v1 l3).bind fun h4 =>
    mm_run p_Md_table f 139 [.ref t, .int (v1 + 1)] [] h4
  else
    mm_cv (f_Md_begins [.ref t] h) fun h5 =>
    some (some (.int 0), h5) := rfl
set_option maxRecDepth 100000 in
theorem i_Md_table (l : Launch) : mm_Imp l yX12_table cX12_table 2 (some .int) 10 f_Md_table := mm_imp l (P := p_Md_table) mm_cls_ok mm_sys_ok (by decide) (mm_Pok_of (List.forall_mem_cons.mpr ⟨k_X12_1, (List.forall_mem_cons.mpr ⟨k_X12_24, (List.forall_mem_cons.mpr ⟨k_X12_111, (List.forall_mem_cons.mpr ⟨k_X12_114, (List.forall_mem_cons.mpr ⟨k_X12_117, (List.forall_mem_cons.mpr ⟨k_X12_172, (List.forall_mem_cons.mpr ⟨k_X12_175, (fun _ h => absurd h List.not_mem_nil)⟩)⟩)⟩)⟩)⟩)⟩)⟩) (List.forall_mem_cons.mpr ⟨v_Md_standsAsAlways l q_1729 (by decide), (List.forall_mem_cons.mpr ⟨v_Md_begins l q_1733 (by decide), (List.forall_mem_cons.mpr ⟨v_Md_cutAll l q_1921 (by decide), (List.forall_mem_cons.mpr ⟨v_Md_readLine l q_1940 (by decide), (List.forall_mem_cons.mpr ⟨v_Md_takeSign l q_2031 (by decide), (fun _ h => absurd h List.not_mem_nil)⟩)⟩)⟩)⟩)⟩) (fun _ h => absurd h List.not_mem_nil) (fun _ h => absurd h List.not_mem_nil)) (by decide +kernel) rfl (cats := [1]) (fun as h r e => ⟨(mm_ga_inv e).1, (mm_gd_inv (mm_ga_inv e).2).1⟩) rfl (by decide)
theorem v_Md_table (l : Launch) {own : String} {i n0 : Nat} (hl : Cond.methodLink own i yX12_table ∈ mm_tbl) (hn : 11 ≤ n0) : mm_cok l own n0 i (0, 0, 1, f_Md_table) := Or.inr (Or.inr ⟨rfl, yX12_table, cX12_table, 2, (some .int), 10, 12, TX12, 27, i_Md_table l, hn, by decide, by decide +kernel, rfl, fun _ _ _ e => (mm_gd_inv (mm_ga_inv e).2).2, hl, q_1918, q_1919, q_179, q_1920⟩)
def p_Md_readsLine : mm_P := ([(0, .aload_n 0, 1, 0), (1, .getfield 120, 3, 0), (4, .iload_n 1, 1, 0), (5, .iaload, 1, 0), (6, .tableswitch 185 0 7 #[46, 97, 115, 182, 164, 182, 182, 182], 46, 0), (52, .aload_n 0, 1, 0), (53, .getfield 120, 3, 0), (56, .iload_n 1, 1, 0), (57, .iconst 1, 1, 1), (58, .iadd, 1, 0), (59, .aload_n 0, 1, 0), (60, .iconst 0, 1, 0), (61, .sipush 999, 3, 999), (64, .invokevirtual 194, 3, 0), (67, .iastore, 1, 0), (68, .aload_n 0, 1, 0), (69, .getfield 120, 3, 0), (72, .iload_n 1, 1, 0), (73, .iconst 2, 1, 2), (74, .iadd, 1, 0), (75, .aload_n 0, 1, 0), (76, .iconst 0, 1, 0), (77, .sipush 999, 3, 999), (80, .invokevirtual 194, 3, 0), (83, .iastore, 1, 0), (84, .aload_n 0, 1, 0), (85, .getfield 120, 3, 0), (88, .iload_n 1, 1, 0), (89, .iconst 3, 1, 3), (90, .iadd, 1, 0), (91, .aload_n 0, 1, 0), (92, .iconst 0, 1, 0), (93, .sipush 999, 3, 999), (96, .invokevirtual 194, 3, 0), (99, .iastore, 1, 0), (100, .goto 108, 3, 0), (103, .aload_n 0, 1, 0), (104, .getfield 120, 3, 0), (107, .iload_n 1, 1, 0), (108, .iconst 1, 1, 1), (109, .iadd, 1, 0), (110, .aload_n 0, 1, 0), (111, .iconst 0, 1, 0), (112, .bipush 29, 2, 29), (114, .invokevirtual 194, 3, 0), (117, .iastore, 1, 0), (118, .goto 90, 3, 0), (121, .aload_n 0, 1, 0), (122, .getfield 120, 3, 0), (125, .iload_n 1, 1, 0), (126, .iconst 1, 1, 1), (127, .iadd, 1, 0), (128, .aload_n 0, 1, 0), (129, .iconst 0, 1, 0), (130, .bipush 29, 2, 29), (132, .invokevirtual 194, 3, 0), (135, .iastore, 1, 0), (136, .aload_n 0, 1, 0), (137, .getfield 120, 3, 0), (140, .iload_n 1, 1, 0), (141, .iconst 2, 1, 2), (142, .iadd, 1, 0), (143, .aload_n 0, 1, 0), (144, .bipush 23, 2, 23), (146, .iconst 3, 1, 3), (147, .invokevirtual 239, 3, 0), (150, .iastore, 1, 0), (151, .aload_n 0, 1, 0), (152, .getfield 120, 3, 0), (155, .iload_n 1, 1, 0), (156, .iconst 3, 1, 3), (157, .iadd, 1, 0), (158, .aload_n 0, 1, 0), (159, .iconst 0, 1, 0), (160, .sipush 999, 3, 999), (163, .invokevirtual 194, 3, 0), (166, .iastore, 1, 0), (167, .goto 41, 3, 0), (170, .aload_n 0, 1, 0), (171, .getfield 120, 3, 0), (174, .iload_n 1, 1, 0), (175, .iconst 1, 1, 1), (176, .iadd, 1, 0), (177, .aload_n 0, 1, 0), (178, .iconst 1, 1, 1), (179, .bipush 99, 2, 99), (181, .invokevirtual 194, 3, 0), (184, .iastore, 1, 0), (185, .goto 23, 3, 0), (188, .goto 20, 3, 0), (191, .aload_n 0, 1, 0), (192, .getfield 120, 3, 0), (195, .iload_n 1, 1, 0), (196, .iconst 1, 1, 1), (197, .iadd, 1, 0), (198, .aload_n 0, 1, 0), (199, .iconst 0, 1, 0), (200, .aload_n 0, 1, 0), (201, .invokevirtual 268, 3, 0), (204, .invokevirtual 272, 3, 0), (207, .iastore, 1, 0), (208, .return_, 1, 0)], [(120, 12, 13, 4)], [(194, 0, 2, 1, f_Md_takeNumber), (239, 0, 2, 1, f_Md_takeOne), (268, 0, 0, 1, f_Md_indexes), (272, 0, 2, 1, f_Md_takeTold)], [], [], [(0, [0, 1])], [(6, [(0, 52), (1, 103), (2, 121), (3, 188), (4, 170), (5, 188), (6, 188), (7, 188)], 191)], 0)
def f_Md_readsLine : mm_F := fun args h => mm_ga [1, 1] args (mm_gd 12 args h (mm_run p_Md_readsLine (mm_fu + 1) 0 args [] h))
set_option maxRecDepth 100000 in
theorem e_Md_readsLine_0 (f : Nat) (t : Nat) (v1 : Int32) (h : mm_H) : mm_run p_Md_readsLine (f + 1) 0 [.ref t, .int v1] [] h =
  (mm_gr 12 13 h t).bind fun r1 =>
  (mm_li h r1 v1).bind fun x2 =>
  if x2 = 0 then
    (mm_gr 12 13 h t).bind fun r3 =>
    mm_ci (f_Md_takeNumber [.ref t, .int 0, .int 999] h) fun x5 h4 =>
    (mm_si h4 r3 (v1 + 1) x5).bind fun h6 =>
    (mm_gr 12 13 h6 t).bind fun r7 =>
    mm_ci (f_Md_takeNumber [.ref t, .int 0, .int 999] h6) fun x9 h8 =>
    (mm_si h8 r7 (v1 + 2) x9).bind fun h10 =>
    (mm_gr 12 13 h10 t).bind fun r11 =>
    mm_ci (f_Md_takeNumber [.ref t, .int 0, .int 999] h10) fun x13 h12 =>
    (mm_si h12 r11 (v1 + 3) x13).bind fun h14 =>
    some (none, h14)
  else if x2 = 1 then
    (mm_gr 12 13 h t).bind fun r15 =>
    mm_ci (f_Md_takeNumber [.ref t, .int 0, .int 29] h) fun x17 h16 =>
    (mm_si h16 r15 (v1 + 1) x17).bind fun h18 =>
    some (none, h18)
  else if x2 = 2 then
    (mm_gr 12 13 h t).bind fun r19 =>
    mm_ci (f_Md_takeNumber [.ref t, .int 0, .int 29] h) fun x21 h20 =>
    (mm_si h20 r19 (v1 + 1) x21).bind fun h22 =>
    (mm_gr 12 13 h22 t).bind fun r23 =>
    mm_ci (f_Md_takeOne [.ref t, .int 23, .int 3] h22) fun x25 h24 =>
    (mm_si h24 r23 (v1 + 2) x25).bind fun h26 =>
    (mm_gr 12 13 h26 t).bind fun r27 =>
    mm_ci (f_Md_takeNumber [.ref t, .int 0, .int 999] h26) fun x29 h28 =>
    (mm_si h28 r27 (v1 + 3) x29).bind fun h30 =>
    some (none, h30)
  else if x2 = 3 then
    some (none, h)
  else if x2 = 4 then
    (mm_gr 12 13 h t).bind fun r31 =>
    mm_ci (f_Md_takeNumber [.ref t, .int 1, .int 99] h) fun x33 h32 =>
    (mm_si h32 r31 (v1 + 1) x33).bind fun h34 =>
    some (none, h34)
  else if x2 = 5 then
    some (none, h)
  else if x2 = 6 then
    some (none, h)
  else if x2 = 7 then
    some (none, h)
  else 
    (mm_gr 12 13 h t).bind fun r35 =>
    mm_ci (f_Md_indexes [.ref t] h) fun x37 h36 =>
    mm_ci (f_Md_takeTold [.ref t, .int 0, .int x37] h36) fun x39 h38 =>
    (mm_si h38 r35 (v1 + 1) x39).bind fun h40 =>
    some (none, h40) := rfl
theorem e_Md_readsLine (t : Nat) (v1 : Int32) (h : mm_H) {fs : List Value} (hb : h t = some (.inr (12, fs))) : f_Md_readsLine [.ref t, .int v1] h =
  (mm_gr 12 13 h t).bind fun r1 =>
  (mm_li h r1 v1).bind fun x2 =>
  if x2 = 0 then
    (mm_gr 12 13 h t).bind fun r3 =>
    mm_ci (f_Md_takeNumber [.ref t, .int 0, .int 999] h) fun x5 h4 =>
    (mm_si h4 r3 (v1 + 1) x5).bind fun h6 =>
    (mm_gr 12 13 h6 t).bind fun r7 =>
    mm_ci (f_Md_takeNumber [.ref t, .int 0, .int 999] h6) fun x9 h8 =>
    (mm_si h8 r7 (v1 + 2) x9).bind fun h10 =>
    (mm_gr 12 13 h10 t).bind fun r11 =>
    mm_ci (f_Md_takeNumber [.ref t, .int 0, .int 999] h10) fun x13 h12 =>
    (mm_si h12 r11 (v1 + 3) x13).bind fun h14 =>
    some (none, h14)
  else if x2 = 1 then
    (mm_gr 12 13 h t).bind fun r15 =>
    mm_ci (f_Md_takeNumber [.ref t, .int 0, .int 29] h) fun x17 h16 =>
    (mm_si h16 r15 (v1 + 1) x17).bind fun h18 =>
    some (none, h18)
  else if x2 = 2 then
    (mm_gr 12 13 h t).bind fun r19 =>
    mm_ci (f_Md_takeNumber [.ref t, .int 0, .int 29] h) fun x21 h20 =>
    (mm_si h20 r19 (v1 + 1) x21).bind fun h22 =>
    (mm_gr 12 13 h22 t).bind fun r23 =>
    mm_ci (f_Md_takeOne [.ref t, .int 23, .int 3] h22) fun x25 h24 =>
    (mm_si h24 r23 (v1 + 2) x25).bind fun h26 =>
    (mm_gr 12 13 h26 t).bind fun r27 =>
    mm_ci (f_Md_takeNumber [.ref t, .int 0, .int 999] h26) fun x29 h28 =>
    (mm_si h28 r27 (v1 + 3) x29).bind fun h30 =>
    some (none, h30)
  else if x2 = 3 then
    some (none, h)
  else if x2 = 4 then
    (mm_gr 12 13 h t).bind fun r31 =>
    mm_ci (f_Md_takeNumber [.ref t, .int 1, .int 99] h) fun x33 h32 =>
    (mm_si h32 r31 (v1 + 1) x33).bind fun h34 =>
    some (none, h34)
  else if x2 = 5 then
    some (none, h)
  else if x2 = 6 then
    some (none, h)
  else if x2 = 7 then
    some (none, h)
  else 
    (mm_gr 12 13 h t).bind fun r35 =>
    mm_ci (f_Md_indexes [.ref t] h) fun x37 h36 =>
    mm_ci (f_Md_takeTold [.ref t, .int 0, .int x37] h36) fun x39 h38 =>
    (mm_si h38 r35 (v1 + 1) x39).bind fun h40 =>
    some (none, h40) := (mm_ga_is rfl).trans ((mm_gd_is hb).trans (e_Md_readsLine_0 mm_fu t v1 h))
set_option maxRecDepth 100000 in
theorem i_Md_readsLine (l : Launch) : mm_Imp l yX12_readsLine cX12_readsLine 2 none 5 f_Md_readsLine := mm_imp l (P := p_Md_readsLine) mm_cls_ok mm_sys_ok (by decide) (mm_Pok_of (List.forall_mem_cons.mpr ⟨k_X12_120, (fun _ h => absurd h List.not_mem_nil)⟩) (List.forall_mem_cons.mpr ⟨v_Md_takeNumber l q_1968 (by decide), (List.forall_mem_cons.mpr ⟨v_Md_takeOne l q_1984 (by decide), (List.forall_mem_cons.mpr ⟨v_Md_indexes l q_1741 (by decide), (List.forall_mem_cons.mpr ⟨v_Md_takeTold l q_2047 (by decide), (fun _ h => absurd h List.not_mem_nil)⟩)⟩)⟩)⟩) (fun _ h => absurd h List.not_mem_nil) (fun _ h => absurd h List.not_mem_nil)) (by decide +kernel) rfl (cats := [1, 1]) (fun as h r e => ⟨(mm_ga_inv e).1, (mm_gd_inv (mm_ga_inv e).2).1⟩) rfl (by decide)
theorem v_Md_readsLine (l : Launch) {own : String} {i n0 : Nat} (hl : Cond.methodLink own i yX12_readsLine ∈ mm_tbl) (hn : 6 ≤ n0) : mm_cok l own n0 i (0, 1, 0, f_Md_readsLine) := Or.inr (Or.inr ⟨rfl, yX12_readsLine, cX12_readsLine, 2, none, 5, 12, TX12, 27, i_Md_readsLine l, hn, by decide, by decide +kernel, rfl, fun _ _ _ e => (mm_gd_inv (mm_ga_inv e).2).2, hl, q_2045, q_99, q_179, q_2046⟩)
def p_Md_work : mm_P := ([(0, .aload_n 0, 1, 0), (1, .iconst 0, 1, 0), (2, .putfield 1, 3, 0), (5, .aload_n 0, 1, 0), (6, .invokevirtual 208, 3, 0), (9, .iconst 0, 1, 0), (10, .istore_n 1, 1, 0), (11, .aload_n 0, 1, 0), (12, .getfield 175, 3, 0), (15, .ifCond .ne 92, 3, 0), (18, .aload_n 0, 1, 0), (19, .getfield 24, 3, 0), (22, .aload_n 0, 1, 0), (23, .getfield 172, 3, 0), (26, .iaload, 1, 0), (27, .ifCond .eq 80, 3, 0), (30, .aload_n 0, 1, 0), (31, .bipush 7, 2, 7), (33, .bipush 9, 2, 9), (35, .invokevirtual 198, 3, 0), (38, .istore_n 2, 1, 0), (39, .iload_n 2, 1, 0), (40, .ifCond .ge 11, 3, 0), (43, .aload_n 0, 1, 0), (44, .iconst 1, 1, 1), (45, .invokevirtual 181, 3, 0), (48, .goto 50, 3, 0), (51, .iload_n 1, 1, 0), (52, .bipush 40, 2, 40), (54, .if_icmp .ne 11, 3, 0), (57, .aload_n 0, 1, 0), (58, .iconst 5, 1, 5), (59, .invokevirtual 181, 3, 0), (62, .goto 36, 3, 0), (65, .aload_n 0, 1, 0), (66, .dup, 1, 0), (67, .getfield 172, 3, 0), (70, .iconst 1, 1, 1), (71, .iadd, 1, 0), (72, .putfield 172, 3, 0), (75, .sipush 161, 3, 161), (78, .iconst 4, 1, 4), (79, .iload_n 1, 1, 0), (80, .imul, 1, 0), (81, .iadd, 1, 0), (82, .istore_n 3, 1, 0), (83, .aload_n 0, 1, 0), (84, .getfield 120, 3, 0), (87, .iload_n 3, 1, 0), (88, .iload_n 2, 1, 0), (89, .iastore, 1, 0), (90, .aload_n 0, 1, 0), (91, .iload_n 3, 1, 0), (92, .invokevirtual 265, 3, 0), (95, .iinc 1 1, 3, 1), (98, .aload_n 0, 1, 0), (99, .bipush 59, 2, 59), (101, .invokevirtual 214, 3, 0), (104, .goto (-93), 3, 0), (107, .aload_n 0, 1, 0), (108, .getfield 175, 3, 0), (111, .ifCond .le 8, 3, 0), (114, .aload_n 0, 1, 0), (115, .getfield 175, 3, 0), (118, .ireturn, 1, 0), (119, .aload_n 0, 1, 0), (120, .getfield 120, 3, 0), (123, .iconst 0, 1, 0), (124, .iload_n 1, 1, 0), (125, .iastore, 1, 0), (126, .iconst 0, 1, 0), (127, .istore_n 2, 1, 0), (128, .iload_n 2, 1, 0), (129, .iconst 4, 1, 4), (130, .iload_n 1, 1, 0), (131, .imul, 1, 0), (132, .if_icmp .ge 27, 3, 0), (135, .aload_n 0, 1, 0), (136, .getfield 120, 3, 0), (139, .iconst 1, 1, 1), (140, .iload_n 2, 1, 0), (141, .iadd, 1, 0), (142, .aload_n 0, 1, 0), (143, .getfield 120, 3, 0), (146, .sipush 161, 3, 161), (149, .iload_n 2, 1, 0), (150, .iadd, 1, 0), (151, .iaload, 1, 0), (152, .iastore, 1, 0), (153, .iinc 2 1, 3, 1), (156, .goto (-28), 3, 0), (159, .iconst 0, 1, 0), (160, .ireturn, 1, 0)], [(1, 12, 0, 0), (24, 12, 4, 4), (120, 12, 13, 4), (172, 12, 7, 0), (175, 12, 8, 0)], [(181, 0, 1, 0, f_Md_wrong), (198, 0, 2, 1, f_Md_wordHere), (208, 0, 0, 0, f_Md_cutAll), (214, 0, 1, 0, f_Md_takeSign), (265, 0, 1, 0, f_Md_readsLine)], [], [], [(0, [0]), (11, [0, 1]), (128, [0, 1, 2])], [], 2)
def f_Md_work : mm_F := fun args h => mm_ga [1] args (mm_gd 12 args h (mm_run p_Md_work (mm_fu + 1) 0 args [] h))
set_option maxRecDepth 100000 in
theorem e_Md_work_0 (f : Nat) (t : Nat) (h : mm_H) : mm_run p_Md_work (f + 1) 0 [.ref t] [] h =
  (mm_pf 12 0 (.int 0) h t).bind fun h1 =>
  mm_cv (f_Md_cutAll [.ref t] h1) fun h2 =>
  mm_run p_Md_work f 11 [.ref t, .int 0] [] h2 := rfl
theorem e_Md_work (t : Nat) (h : mm_H) {fs : List Value} (hb : h t = some (.inr (12, fs))) : f_Md_work [.ref t] h =
  (mm_pf 12 0 (.int 0) h t).bind fun h1 =>
  mm_cv (f_Md_cutAll [.ref t] h1) fun h2 =>
  mm_run p_Md_work mm_fu 11 [.ref t, .int 0] [] h2 := (mm_ga_is rfl).trans ((mm_gd_is hb).trans (e_Md_work_0 mm_fu t h))
set_option maxRecDepth 100000 in
theorem e_Md_work_11 (f : Nat) (t : Nat) (v1 : Int32) (h : mm_H) : mm_run p_Md_work (f + 1) 11 [.ref t, .int v1] [] h =
  (mm_gi 12 8 h t).bind fun x1 =>
  if x1 = 0 then
    (mm_gr 12 4 h t).bind fun r2 =>
    (mm_gi 12 7 h t).bind fun x3 =>
    (mm_li h r2 x3).bind fun x4 =>
    if x4 = 0 then
      (mm_gi 12 8 h t).bind fun x5 =>
      if (0 : Int32) < x5 then
        (mm_gi 12 8 h t).bind fun x6 =>
        some (some (.int x6), h)
      else
        (mm_gr 12 13 h t).bind fun r7 =>
        (mm_si h r7 0 v1).bind fun h8 =>
        mm_run p_Md_work f 128 [.ref t, .int v1, .int 0] [] h8
    else
      mm_ci (f_Md_wordHere [.ref t, .int 7, .int 9] h) fun x10 h9 =>
      if x10 < 0 then
        mm_cv (f_Md_wrong [.ref t, .int 1] h9) fun h11 =>
        mm_cv (f_Md_takeSign [.ref t, .int 59] h11) fun h12 =>
        mm_run p_Md_work f 11 [.ref t, .int v1] [] h12
      else
        if v1 = 40 then
          mm_cv (f_Md_wrong [.ref t, .int 5] h9) fun h13 =>
          mm_cv (f_Md_takeSign [.ref t, .int 59] h13) fun h14 =>
          mm_run p_Md_work f 11 [.ref t, .int v1] [] h14
        else
          (mm_gi 12 7 h9 t).bind fun x15 =>
          (mm_pf 12 7 (.int (x15 + 1)) h9 t).bind fun h16 =>
          (mm_gr 12 13 h16 t).bind fun r17 =>
          (mm_si h16 r17 (161 + (4 * v1)) x10).bind fun h18 =>
          mm_cv (f_Md_readsLine [.ref t, .int (161 + (4 * v1))] h18) fun h19 =>
          mm_cv (f_Md_takeSign [.ref t, .int 59] h19) fun h20 =>
          mm_run p_Md_work f 11 [.ref t, .int (v1 + 1)] [] h20
  else
    (mm_gi 12 8 h t).bind fun x21 =>
    if (0 : Int32) < x21 then
      (mm_gi 12 8 h t).bind fun x22 =>
      some (some (.int x22), h)
    else
      (mm_gr 12 13 h t).bind fun r23 =>
      (mm_si h r23 0 v1).bind fun h24 =>
      mm_run p_Md_work f 128 [.ref t, .int v1, .int 0] [] h24 := rfl
set_option maxRecDepth 100000 in
theorem e_Md_work_128 (f : Nat) (t : Nat) (v1 : Int32) (v2 : Int32) (h : mm_H) : mm_run p_Md_work (f + 1) 128 [.ref t, .int v1, .int v2] [] h =
  if v2 < (4 * v1) then
    (mm_gr 12 13 h t).bind fun r1 =>
    (mm_gr 12 13 h t).bind fun r2 =>
    (mm_li h r2 (161 + v2)).bind fun x3 =>
    (mm_si h r1 (1 + v2) x3).bind fun h4 =>
    mm_run p_Md_work f 128 [.ref t, .int v1, .int (v2 + 1)] [] h4
  else
    some (some (.int 0), h) := rfl
set_option maxRecDepth 100000 in
theorem i_Md_work (l : Launch) : mm_Imp l yX12_work cX12_work 4 (some .int) 6 f_Md_work := mm_imp l (P := p_Md_work) mm_cls_ok mm_sys_ok (by decide) (mm_Pok_of (List.forall_mem_cons.mpr ⟨k_X12_1, (List.forall_mem_cons.mpr ⟨k_X12_24, (List.forall_mem_cons.mpr ⟨k_X12_120, (List.forall_mem_cons.mpr ⟨k_X12_172, (List.forall_mem_cons.mpr ⟨k_X12_175, (fun _ h => absurd h List.not_mem_nil)⟩)⟩)⟩)⟩)⟩) (List.forall_mem_cons.mpr ⟨v_Md_wrong l q_1956 (by decide), (List.forall_mem_cons.mpr ⟨v_Md_wordHere l q_1944 (by decide), (List.forall_mem_cons.mpr ⟨v_Md_cutAll l q_1921 (by decide), (List.forall_mem_cons.mpr ⟨v_Md_takeSign l q_2031 (by decide), (List.forall_mem_cons.mpr ⟨v_Md_readsLine l q_2043 (by decide), (fun _ h => absurd h List.not_mem_nil)⟩)⟩)⟩)⟩)⟩) (fun _ h => absurd h List.not_mem_nil) (fun _ h => absurd h List.not_mem_nil)) (by decide +kernel) rfl (cats := [1]) (fun as h r e => ⟨(mm_ga_inv e).1, (mm_gd_inv (mm_ga_inv e).2).1⟩) rfl (by decide)
theorem v_Md_work (l : Launch) {own : String} {i n0 : Nat} (hl : Cond.methodLink own i yX12_work ∈ mm_tbl) (hn : 7 ≤ n0) : mm_cok l own n0 i (0, 0, 1, f_Md_work) := Or.inr (Or.inr ⟨rfl, yX12_work, cX12_work, 4, (some .int), 6, 12, TX12, 27, i_Md_work l, hn, by decide, by decide +kernel, rfl, fun _ _ _ e => (mm_gd_inv (mm_ga_inv e).2).2, hl, q_2040, q_2041, q_179, q_2042⟩)
def p_Md_copies : mm_P := ([(0, .iconst 0, 1, 0), (1, .istore 4, 2, 0), (3, .iload 4, 2, 0), (5, .iload_n 3, 1, 0), (6, .if_icmp .ge 27, 3, 0), (9, .aload_n 0, 1, 0), (10, .getfield 123, 3, 0), (13, .iload_n 2, 1, 0), (14, .iload 4, 2, 0), (16, .iadd, 1, 0), (17, .aload_n 0, 1, 0), (18, .getfield 123, 3, 0), (21, .iload_n 1, 1, 0), (22, .iload 4, 2, 0), (24, .iadd, 1, 0), (25, .iaload, 1, 0), (26, .iastore, 1, 0), (27, .iinc 4 1, 3, 1), (30, .goto (-27), 3, 0), (33, .return_, 1, 0)], [(123, 12, 14, 4)], [], [], [], [(0, [0, 1, 2, 3]), (3, [0, 1, 2, 3, 4])], [], 0)
def f_Md_copies : mm_F := fun args h => mm_ga [1, 1, 1, 1] args (mm_gd 12 args h (mm_run p_Md_copies (mm_fu + 1) 0 args [] h))
set_option maxRecDepth 100000 in
theorem e_Md_copies_0 (f : Nat) (t : Nat) (v1 : Int32) (v2 : Int32) (v3 : Int32) (h : mm_H) : mm_run p_Md_copies (f + 1) 0 [.ref t, .int v1, .int v2, .int v3] [] h =
  mm_run p_Md_copies f 3 [.ref t, .int v1, .int v2, .int v3, .int 0] [] h := rfl
theorem e_Md_copies (t : Nat) (v1 : Int32) (v2 : Int32) (v3 : Int32) (h : mm_H) {fs : List Value} (hb : h t = some (.inr (12, fs))) : f_Md_copies [.ref t, .int v1, .int v2, .int v3] h =
  mm_run p_Md_copies mm_fu 3 [.ref t, .int v1, .int v2, .int v3, .int 0] [] h := (mm_ga_is rfl).trans ((mm_gd_is hb).trans (e_Md_copies_0 mm_fu t v1 v2 v3 h))
set_option maxRecDepth 100000 in
theorem e_Md_copies_3 (f : Nat) (t : Nat) (v1 : Int32) (v2 : Int32) (v3 : Int32) (v4 : Int32) (h : mm_H) : mm_run p_Md_copies (f + 1) 3 [.ref t, .int v1, .int v2, .int v3, .int v4] [] h =
  if v4 < v3 then
    (mm_gr 12 14 h t).bind fun r1 =>
    (mm_gr 12 14 h t).bind fun r2 =>
    (mm_li h r2 (v1 + v4)).bind fun x3 =>
    (mm_si h r1 (v2 + v4) x3).bind fun h4 =>
    mm_run p_Md_copies f 3 [.ref t, .int v1, .int v2, .int v3, .int (v4 + 1)] [] h4
  else
    some (none, h) := rfl
set_option maxRecDepth 100000 in
theorem i_Md_copies (l : Launch) : mm_Imp l yX12_copies cX12_copies 5 none 1 f_Md_copies := mm_imp l (P := p_Md_copies) mm_cls_ok mm_sys_ok (by decide) (mm_Pok_of (List.forall_mem_cons.mpr ⟨k_X12_123, (fun _ h => absurd h List.not_mem_nil)⟩) (fun _ h => absurd h List.not_mem_nil) (fun _ h => absurd h List.not_mem_nil) (fun _ h => absurd h List.not_mem_nil)) (by decide +kernel) rfl (cats := [1, 1, 1, 1]) (fun as h r e => ⟨(mm_ga_inv e).1, (mm_gd_inv (mm_ga_inv e).2).1⟩) rfl (by decide)
theorem v_Md_copies (l : Launch) {own : String} {i n0 : Nat} (hl : Cond.methodLink own i yX12_copies ∈ mm_tbl) (hn : 2 ≤ n0) : mm_cok l own n0 i (0, 3, 0, f_Md_copies) := Or.inr (Or.inr ⟨rfl, yX12_copies, cX12_copies, 5, none, 1, 12, TX12, 27, i_Md_copies l, hn, by decide, by decide +kernel, rfl, fun _ _ _ e => (mm_gd_inv (mm_ga_inv e).2).2, hl, q_2061, q_102, q_179, q_2062⟩)
def p_Md_isIndex : mm_P := ([(0, .iload_n 1, 1, 0), (1, .ifCond .lt 15, 3, 0), (4, .iload_n 1, 1, 0), (5, .aload_n 0, 1, 0), (6, .invokevirtual 268, 3, 0), (9, .if_icmp .ge 7, 3, 0), (12, .iconst 1, 1, 1), (13, .goto 4, 3, 0), (16, .iconst 0, 1, 0), (17, .ireturn, 1, 0)], [], [(268, 0, 0, 1, f_Md_indexes)], [], [], [(0, [0, 1])], [], 1)
def f_Md_isIndex : mm_F := fun args h => mm_ga [1, 1] args (mm_gd 12 args h (mm_run p_Md_isIndex (mm_fu + 1) 0 args [] h))
set_option maxRecDepth 100000 in
theorem e_Md_isIndex_0 (f : Nat) (t : Nat) (v1 : Int32) (h : mm_H) : mm_run p_Md_isIndex (f + 1) 0 [.ref t, .int v1] [] h =
  if v1 < 0 then
    some (some (.int 0), h)
  else
    mm_ci (f_Md_indexes [.ref t] h) fun x2 h1 =>
    if v1 < x2 then
      some (some (.int 1), h1)
    else
      some (some (.int 0), h1) := rfl
theorem e_Md_isIndex (t : Nat) (v1 : Int32) (h : mm_H) {fs : List Value} (hb : h t = some (.inr (12, fs))) : f_Md_isIndex [.ref t, .int v1] h =
  if v1 < 0 then
    some (some (.int 0), h)
  else
    mm_ci (f_Md_indexes [.ref t] h) fun x2 h1 =>
    if v1 < x2 then
      some (some (.int 1), h1)
    else
      some (some (.int 0), h1) := (mm_ga_is rfl).trans ((mm_gd_is hb).trans (e_Md_isIndex_0 mm_fu t v1 h))
set_option maxRecDepth 100000 in
theorem i_Md_isIndex (l : Launch) : mm_Imp l yX12_isIndex cX12_isIndex 2 (some .boolean) 2 f_Md_isIndex := mm_imp l (P := p_Md_isIndex) mm_cls_ok mm_sys_ok (by decide) (mm_Pok_of (fun _ h => absurd h List.not_mem_nil) (List.forall_mem_cons.mpr ⟨v_Md_indexes l q_1741 (by decide), (fun _ h => absurd h List.not_mem_nil)⟩) (fun _ h => absurd h List.not_mem_nil) (fun _ h => absurd h List.not_mem_nil)) (by decide +kernel) rfl (cats := [1, 1]) (fun as h r e => ⟨(mm_ga_inv e).1, (mm_gd_inv (mm_ga_inv e).2).1⟩) rfl (by decide)
theorem v_Md_isIndex (l : Launch) {own : String} {i n0 : Nat} (hl : Cond.methodLink own i yX12_isIndex ∈ mm_tbl) (hn : 3 ≤ n0) : mm_cok l own n0 i (0, 1, 1, f_Md_isIndex) := Or.inr (Or.inr ⟨rfl, yX12_isIndex, cX12_isIndex, 2, (some .boolean), 2, 12, TX12, 27, i_Md_isIndex l, hn, by decide, by decide +kernel, rfl, fun _ _ _ e => (mm_gd_inv (mm_ga_inv e).2).2, hl, q_2168, q_122, q_179, q_2169⟩)
def p_Md_manyOf : mm_P := ([(0, .iconst 0, 1, 0), (1, .istore_n 1, 1, 0), (2, .iconst 0, 1, 0), (3, .istore_n 2, 1, 0), (4, .iload_n 2, 1, 0), (5, .bipush 30, 2, 30), (7, .if_icmp .ge 17, 3, 0), (10, .iload_n 1, 1, 0), (11, .iload_n 0, 1, 0), (12, .iload_n 2, 1, 0), (13, .ishr, 1, 0), (14, .iconst 1, 1, 1), (15, .iand, 1, 0), (16, .iadd, 1, 0), (17, .istore_n 1, 1, 0), (18, .iinc 2 1, 3, 1), (21, .goto (-17), 3, 0), (24, .iload_n 1, 1, 0), (25, .ireturn, 1, 0)], [], [], [], [], [(0, [0]), (4, [0, 1, 2])], [], 2)
def f_Md_manyOf : mm_F := fun args h => mm_ga [1] args (mm_run p_Md_manyOf (mm_fu + 1) 0 args [] h)
set_option maxRecDepth 100000 in
theorem e_Md_manyOf_0 (f : Nat) (v0 : Int32) (h : mm_H) : mm_run p_Md_manyOf (f + 1) 0 [.int v0] [] h =
  mm_run p_Md_manyOf f 4 [.int v0, .int 0, .int 0] [] h := rfl
theorem e_Md_manyOf (v0 : Int32) (h : mm_H) : f_Md_manyOf [.int v0] h =
  mm_run p_Md_manyOf mm_fu 4 [.int v0, .int 0, .int 0] [] h := (mm_ga_is rfl).trans (e_Md_manyOf_0 mm_fu v0 h)
set_option maxRecDepth 100000 in
theorem e_Md_manyOf_4 (f : Nat) (v0 : Int32) (v1 : Int32) (v2 : Int32) (h : mm_H) : mm_run p_Md_manyOf (f + 1) 4 [.int v0, .int v1, .int v2] [] h =
  if v2 < 30 then
    mm_run p_Md_manyOf f 4 [.int v0, .int (v1 + ((v0 >>> (v2 &&& 31)) &&& 1)), .int (v2 + 1)] [] h
  else
    some (some (.int v1), h) := rfl
set_option maxRecDepth 100000 in
theorem i_Md_manyOf (l : Launch) : mm_Imp l yX12_manyOf cX12_manyOf 3 (some .int) 1 f_Md_manyOf := mm_imp l (P := p_Md_manyOf) mm_cls_ok mm_sys_ok (by decide) (mm_Pok_of (fun _ h => absurd h List.not_mem_nil) (fun _ h => absurd h List.not_mem_nil) (fun _ h => absurd h List.not_mem_nil) (fun _ h => absurd h List.not_mem_nil)) (by decide +kernel) rfl (cats := [1]) (fun as h r e => ⟨(mm_ga_inv e).1, (mm_ga_inv e).2⟩) rfl (by decide)
theorem v_Md_manyOf (l : Launch) {own : String} {i n0 : Nat} (hl : Cond.methodLink own i yX12_manyOf ∈ mm_tbl ∨ ∃ host, Cond.methodLinkNest own i yX12_manyOf host ∈ mm_nest) (hn : 2 ≤ n0) : mm_cok l own n0 i (1, 1, 1, f_Md_manyOf) := Or.inr (Or.inl ⟨rfl, yX12_manyOf, cX12_manyOf, 3, (some .int), 1, i_Md_manyOf l, hn, by decide, by decide +kernel, hl, q_2215, q_179, q_2216⟩)
def p_Md_isVisible : mm_P := ([(0, .iload_n 2, 1, 0), (1, .iconst 0, 1, 0), (2, .bipush 29, 2, 29), (4, .invokestatic 275, 3, 0), (7, .ifCond .eq 19, 3, 0), (10, .aload_n 0, 1, 0), (11, .iload_n 1, 1, 0), (12, .invokevirtual 279, 3, 0), (15, .iload_n 2, 1, 0), (16, .invokestatic 282, 3, 0), (19, .ifCond .eq 7, 3, 0), (22, .iconst 1, 1, 1), (23, .goto 4, 3, 0), (26, .iconst 0, 1, 0), (27, .ireturn, 1, 0)], [], [(275, 1, 3, 1, f_Md_within), (279, 0, 1, 1, f_Md_visible), (282, 1, 2, 1, f_Md_has)], [], [], [(0, [0, 1, 2])], [], 1)
def f_Md_isVisible : mm_F := fun args h => mm_ga [1, 1, 1] args (mm_gd 12 args h (mm_run p_Md_isVisible (mm_fu + 1) 0 args [] h))
set_option maxRecDepth 100000 in
theorem e_Md_isVisible_0 (f : Nat) (t : Nat) (v1 : Int32) (v2 : Int32) (h : mm_H) : mm_run p_Md_isVisible (f + 1) 0 [.ref t, .int v1, .int v2] [] h =
  mm_ci (f_Md_within [.int v2, .int 0, .int 29] h) fun x2 h1 =>
  if x2 = 0 then
    some (some (.int 0), h1)
  else
    mm_ci (f_Md_visible [.ref t, .int v1] h1) fun x4 h3 =>
    mm_ci (f_Md_has [.int x4, .int v2] h3) fun x6 h5 =>
    if x6 = 0 then
      some (some (.int 0), h5)
    else
      some (some (.int 1), h5) := rfl
theorem e_Md_isVisible (t : Nat) (v1 : Int32) (v2 : Int32) (h : mm_H) {fs : List Value} (hb : h t = some (.inr (12, fs))) : f_Md_isVisible [.ref t, .int v1, .int v2] h =
  mm_ci (f_Md_within [.int v2, .int 0, .int 29] h) fun x2 h1 =>
  if x2 = 0 then
    some (some (.int 0), h1)
  else
    mm_ci (f_Md_visible [.ref t, .int v1] h1) fun x4 h3 =>
    mm_ci (f_Md_has [.int x4, .int v2] h3) fun x6 h5 =>
    if x6 = 0 then
      some (some (.int 0), h5)
    else
      some (some (.int 1), h5) := (mm_ga_is rfl).trans ((mm_gd_is hb).trans (e_Md_isVisible_0 mm_fu t v1 v2 h))
set_option maxRecDepth 100000 in
theorem i_Md_isVisible (l : Launch) : mm_Imp l yX12_isVisible cX12_isVisible 3 (some .boolean) 2 f_Md_isVisible := mm_imp l (P := p_Md_isVisible) mm_cls_ok mm_sys_ok (by decide) (mm_Pok_of (fun _ h => absurd h List.not_mem_nil) (List.forall_mem_cons.mpr ⟨v_Md_within l (Or.inl q_1769) (by decide), (List.forall_mem_cons.mpr ⟨v_Md_visible l q_1772 (by decide), (List.forall_mem_cons.mpr ⟨v_Md_has l (Or.inl q_1780) (by decide), (fun _ h => absurd h List.not_mem_nil)⟩)⟩)⟩) (fun _ h => absurd h List.not_mem_nil) (fun _ h => absurd h List.not_mem_nil)) (by decide +kernel) rfl (cats := [1, 1, 1]) (fun as h r e => ⟨(mm_ga_inv e).1, (mm_gd_inv (mm_ga_inv e).2).1⟩) rfl (by decide)
theorem v_Md_isVisible (l : Launch) {own : String} {i n0 : Nat} (hl : Cond.methodLink own i yX12_isVisible ∈ mm_tbl) (hn : 3 ≤ n0) : mm_cok l own n0 i (0, 2, 1, f_Md_isVisible) := Or.inr (Or.inr ⟨rfl, yX12_isVisible, cX12_isVisible, 3, (some .boolean), 2, 12, TX12, 27, i_Md_isVisible l, hn, by decide, by decide +kernel, rfl, fun _ _ _ e => (mm_gd_inv (mm_ga_inv e).2).2, hl, q_2108, q_112, q_179, q_2109⟩)
def p_Md_valueIn : mm_P := ([(0, .aload_n 0, 1, 0), (1, .iload_n 1, 1, 0), (2, .invokevirtual 299, 3, 0), (5, .iconst 1, 1, 1), (6, .if_icmp .ne 14, 3, 0), (9, .sipush 999, 3, 999), (12, .iload_n 2, 1, 0), (13, .bipush 32, 2, 32), (15, .idiv, 1, 0), (16, .isub, 1, 0), (17, .goto 7, 3, 0), (20, .iload_n 2, 1, 0), (21, .bipush 32, 2, 32), (23, .idiv, 1, 0), (24, .ireturn, 1, 0)], [], [(299, 0, 1, 1, f_Md_kindOf)], [], [], [(0, [0, 1, 2])], [], 2)
def f_Md_valueIn : mm_F := fun args h => mm_ga [1, 1, 1] args (mm_gd 12 args h (mm_run p_Md_valueIn (mm_fu + 1) 0 args [] h))
set_option maxRecDepth 100000 in
theorem e_Md_valueIn_0 (f : Nat) (t : Nat) (v1 : Int32) (v2 : Int32) (h : mm_H) : mm_run p_Md_valueIn (f + 1) 0 [.ref t, .int v1, .int v2] [] h =
  mm_ci (f_Md_kindOf [.ref t, .int v1] h) fun x2 h1 =>
  if x2 = 1 then
    some (some (.int (999 - (v2 / 32))), h1)
  else
    some (some (.int (v2 / 32)), h1) := rfl
theorem e_Md_valueIn (t : Nat) (v1 : Int32) (v2 : Int32) (h : mm_H) {fs : List Value} (hb : h t = some (.inr (12, fs))) : f_Md_valueIn [.ref t, .int v1, .int v2] h =
  mm_ci (f_Md_kindOf [.ref t, .int v1] h) fun x2 h1 =>
  if x2 = 1 then
    some (some (.int (999 - (v2 / 32))), h1)
  else
    some (some (.int (v2 / 32)), h1) := (mm_ga_is rfl).trans ((mm_gd_is hb).trans (e_Md_valueIn_0 mm_fu t v1 v2 h))
set_option maxRecDepth 100000 in
theorem i_Md_valueIn (l : Launch) : mm_Imp l yX12_valueIn cX12_valueIn 3 (some .int) 2 f_Md_valueIn := mm_imp l (P := p_Md_valueIn) mm_cls_ok mm_sys_ok (by decide) (mm_Pok_of (fun _ h => absurd h List.not_mem_nil) (List.forall_mem_cons.mpr ⟨v_Md_kindOf l q_1749 (by decide), (fun _ h => absurd h List.not_mem_nil)⟩) (fun _ h => absurd h List.not_mem_nil) (fun _ h => absurd h List.not_mem_nil)) (by decide +kernel) rfl (cats := [1, 1, 1]) (fun as h r e => ⟨(mm_ga_inv e).1, (mm_gd_inv (mm_ga_inv e).2).1⟩) rfl (by decide)
theorem v_Md_valueIn (l : Launch) {own : String} {i n0 : Nat} (hl : Cond.methodLink own i yX12_valueIn ∈ mm_tbl) (hn : 3 ≤ n0) : mm_cok l own n0 i (0, 2, 1, f_Md_valueIn) := Or.inr (Or.inr ⟨rfl, yX12_valueIn, cX12_valueIn, 3, (some .int), 2, 12, TX12, 27, i_Md_valueIn l, hn, by decide, by decide +kernel, rfl, fun _ _ _ e => (mm_gd_inv (mm_ga_inv e).2).2, hl, q_2176, q_124, q_179, q_2177⟩)
def p_Md_rowAt : mm_P := ([(0, .aload_n 0, 1, 0), (1, .iload_n 1, 1, 0), (2, .iload_n 2, 1, 0), (3, .iload_n 3, 1, 0), (4, .invokevirtual 308, 3, 0), (7, .bipush 32, 2, 32), (9, .irem, 1, 0), (10, .ireturn, 1, 0)], [], [(308, 0, 3, 1, f_Md_entryAt)], [], [], [(0, [0, 1, 2, 3])], [], 2)
def f_Md_rowAt : mm_F := fun args h => mm_ga [1, 1, 1, 1] args (mm_gd 12 args h (mm_run p_Md_rowAt (mm_fu + 1) 0 args [] h))
set_option maxRecDepth 100000 in
theorem e_Md_rowAt_0 (f : Nat) (t : Nat) (v1 : Int32) (v2 : Int32) (v3 : Int32) (h : mm_H) : mm_run p_Md_rowAt (f + 1) 0 [.ref t, .int v1, .int v2, .int v3] [] h =
  mm_ci (f_Md_entryAt [.ref t, .int v1, .int v2, .int v3] h) fun x2 h1 =>
  some (some (.int (mm_rem x2 32)), h1) := rfl
theorem e_Md_rowAt (t : Nat) (v1 : Int32) (v2 : Int32) (v3 : Int32) (h : mm_H) {fs : List Value} (hb : h t = some (.inr (12, fs))) : f_Md_rowAt [.ref t, .int v1, .int v2, .int v3] h =
  mm_ci (f_Md_entryAt [.ref t, .int v1, .int v2, .int v3] h) fun x2 h1 =>
  some (some (.int (mm_rem x2 32)), h1) := (mm_ga_is rfl).trans ((mm_gd_is hb).trans (e_Md_rowAt_0 mm_fu t v1 v2 v3 h))
set_option maxRecDepth 100000 in
theorem i_Md_rowAt (l : Launch) : mm_Imp l yX12_rowAt cX12_rowAt 4 (some .int) 3 f_Md_rowAt := mm_imp l (P := p_Md_rowAt) mm_cls_ok mm_sys_ok (by decide) (mm_Pok_of (fun _ h => absurd h List.not_mem_nil) (List.forall_mem_cons.mpr ⟨v_Md_entryAt l q_1827 (by decide), (fun _ h => absurd h List.not_mem_nil)⟩) (fun _ h => absurd h List.not_mem_nil) (fun _ h => absurd h List.not_mem_nil)) (by decide +kernel) rfl (cats := [1, 1, 1, 1]) (fun as h r e => ⟨(mm_ga_inv e).1, (mm_gd_inv (mm_ga_inv e).2).1⟩) rfl (by decide)
theorem v_Md_rowAt (l : Launch) {own : String} {i n0 : Nat} (hl : Cond.methodLink own i yX12_rowAt ∈ mm_tbl) (hn : 4 ≤ n0) : mm_cok l own n0 i (0, 3, 1, f_Md_rowAt) := Or.inr (Or.inr ⟨rfl, yX12_rowAt, cX12_rowAt, 4, (some .int), 3, 12, TX12, 27, i_Md_rowAt l, hn, by decide, by decide +kernel, rfl, fun _ _ _ e => (mm_gd_inv (mm_ga_inv e).2).2, hl, q_2172, q_123, q_179, q_2173⟩)
def p_Md_allLeaves : mm_P := ([(0, .iconst 0, 1, 0), (1, .istore_n 2, 1, 0), (2, .iconst 0, 1, 0), (3, .istore_n 3, 1, 0), (4, .iload_n 3, 1, 0), (5, .aload_n 0, 1, 0), (6, .invokevirtual 268, 3, 0), (9, .if_icmp .ge 18, 3, 0), (12, .iload_n 2, 1, 0), (13, .aload_n 0, 1, 0), (14, .iload_n 1, 1, 0), (15, .iload_n 3, 1, 0), (16, .invokevirtual 317, 3, 0), (19, .iadd, 1, 0), (20, .istore_n 2, 1, 0), (21, .iinc 3 1, 3, 1), (24, .goto (-20), 3, 0), (27, .iload_n 2, 1, 0), (28, .ireturn, 1, 0)], [], [(268, 0, 0, 1, f_Md_indexes), (317, 0, 2, 1, f_Md_leaves)], [], [], [(0, [0, 1]), (4, [0, 1, 2, 3])], [], 2)
def f_Md_allLeaves : mm_F := fun args h => mm_ga [1, 1] args (mm_gd 12 args h (mm_run p_Md_allLeaves (mm_fu + 1) 0 args [] h))
set_option maxRecDepth 100000 in
theorem e_Md_allLeaves_0 (f : Nat) (t : Nat) (v1 : Int32) (h : mm_H) : mm_run p_Md_allLeaves (f + 1) 0 [.ref t, .int v1] [] h =
  mm_run p_Md_allLeaves f 4 [.ref t, .int v1, .int 0, .int 0] [] h := rfl
theorem e_Md_allLeaves (t : Nat) (v1 : Int32) (h : mm_H) {fs : List Value} (hb : h t = some (.inr (12, fs))) : f_Md_allLeaves [.ref t, .int v1] h =
  mm_run p_Md_allLeaves mm_fu 4 [.ref t, .int v1, .int 0, .int 0] [] h := (mm_ga_is rfl).trans ((mm_gd_is hb).trans (e_Md_allLeaves_0 mm_fu t v1 h))
set_option maxRecDepth 100000 in
theorem e_Md_allLeaves_4 (f : Nat) (t : Nat) (v1 : Int32) (v2 : Int32) (v3 : Int32) (h : mm_H) : mm_run p_Md_allLeaves (f + 1) 4 [.ref t, .int v1, .int v2, .int v3] [] h =
  mm_ci (f_Md_indexes [.ref t] h) fun x2 h1 =>
  if v3 < x2 then
    mm_ci (f_Md_leaves [.ref t, .int v1, .int v3] h1) fun x4 h3 =>
    mm_run p_Md_allLeaves f 4 [.ref t, .int v1, .int (v2 + x4), .int (v3 + 1)] [] h3
  else
    some (some (.int v2), h1) := rfl
set_option maxRecDepth 100000 in
theorem i_Md_allLeaves (l : Launch) : mm_Imp l yX12_allLeaves cX12_allLeaves 4 (some .int) 4 f_Md_allLeaves := mm_imp l (P := p_Md_allLeaves) mm_cls_ok mm_sys_ok (by decide) (mm_Pok_of (fun _ h => absurd h List.not_mem_nil) (List.forall_mem_cons.mpr ⟨v_Md_indexes l q_1741 (by decide), (List.forall_mem_cons.mpr ⟨v_Md_leaves l q_1803 (by decide), (fun _ h => absurd h List.not_mem_nil)⟩)⟩) (fun _ h => absurd h List.not_mem_nil) (fun _ h => absurd h List.not_mem_nil)) (by decide +kernel) rfl (cats := [1, 1]) (fun as h r e => ⟨(mm_ga_inv e).1, (mm_gd_inv (mm_ga_inv e).2).1⟩) rfl (by decide)
theorem v_Md_allLeaves (l : Launch) {own : String} {i n0 : Nat} (hl : Cond.methodLink own i yX12_allLeaves ∈ mm_tbl) (hn : 5 ≤ n0) : mm_cok l own n0 i (0, 1, 1, f_Md_allLeaves) := Or.inr (Or.inr ⟨rfl, yX12_allLeaves, cX12_allLeaves, 4, (some .int), 4, 12, TX12, 27, i_Md_allLeaves l, hn, by decide, by decide +kernel, rfl, fun _ _ _ e => (mm_gd_inv (mm_ga_inv e).2).2, hl, q_2432, q_155, q_179, q_2433⟩)
def p_Md_goesOut : mm_P := ([(0, .aload_n 0, 1, 0), (1, .iload_n 1, 1, 0), (2, .iload_n 2, 1, 0), (3, .invokevirtual 305, 3, 0), (6, .iconst 1, 1, 1), (7, .iadd, 1, 0), (8, .istore 4, 2, 0), (10, .aload_n 0, 1, 0), (11, .iload_n 1, 1, 0), (12, .iload_n 2, 1, 0), (13, .iload_n 3, 1, 0), (14, .invokevirtual 314, 3, 0), (17, .istore 5, 2, 0), (19, .iload_n 3, 1, 0), (20, .istore 6, 2, 0), (22, .iload 6, 2, 0), (24, .aload_n 0, 1, 0), (25, .iload_n 1, 1, 0), (26, .iload_n 2, 1, 0), (27, .invokevirtual 311, 3, 0), (30, .iconst 1, 1, 1), (31, .isub, 1, 0), (32, .if_icmp .ge 31, 3, 0), (35, .aload_n 0, 1, 0), (36, .getfield 123, 3, 0), (39, .iload 4, 2, 0), (41, .iload 6, 2, 0), (43, .iadd, 1, 0), (44, .aload_n 0, 1, 0), (45, .getfield 123, 3, 0), (48, .iload 4, 2, 0), (50, .iload 6, 2, 0), (52, .iadd, 1, 0), (53, .iconst 1, 1, 1), (54, .iadd, 1, 0), (55, .iaload, 1, 0), (56, .iastore, 1, 0), (57, .iinc 6 1, 3, 1), (60, .goto (-38), 3, 0), (63, .aload_n 0, 1, 0), (64, .getfield 123, 3, 0), (67, .iload 4, 2, 0), (69, .iconst 1, 1, 1), (70, .isub, 1, 0), (71, .dup2, 1, 0), (72, .iaload, 1, 0), (73, .iconst 1, 1, 1), (74, .isub, 1, 0), (75, .iastore, 1, 0), (76, .iload 5, 2, 0), (78, .ifCond .eq 36, 3, 0), (81, .iload_n 3, 1, 0), (82, .aload_n 0, 1, 0), (83, .iload_n 1, 1, 0), (84, .iload_n 2, 1, 0), (85, .invokevirtual 311, 3, 0), (88, .if_icmp .ge 26, 3, 0), (91, .aload_n 0, 1, 0), (92, .iload_n 1, 1, 0), (93, .iload_n 2, 1, 0), (94, .iload_n 3, 1, 0), (95, .invokevirtual 314, 3, 0), (98, .ifCond .ne 16, 3, 0), (101, .aload_n 0, 1, 0), (102, .getfield 123, 3, 0), (105, .iload 4, 2, 0), (107, .iload_n 3, 1, 0), (108, .iadd, 1, 0), (109, .dup2, 1, 0), (110, .iaload, 1, 0), (111, .iconst 1, 1, 1), (112, .iadd, 1, 0), (113, .iastore, 1, 0), (114, .return_, 1, 0)], [(123, 12, 14, 4)], [(305, 0, 2, 1, f_Md_startOf), (311, 0, 2, 1, f_Md_entries), (314, 0, 3, 1, f_Md_isFirst)], [], [], [(0, [0, 1, 2, 3]), (22, [0, 1, 2, 3, 4, 5, 6])], [], 0)
def f_Md_goesOut : mm_F := fun args h => mm_ga [1, 1, 1, 1] args (mm_gd 12 args h (mm_run p_Md_goesOut (mm_fu + 1) 0 args [] h))
set_option maxRecDepth 100000 in
theorem e_Md_goesOut_0 (f : Nat) (t : Nat) (v1 : Int32) (v2 : Int32) (v3 : Int32) (h : mm_H) : mm_run p_Md_goesOut (f + 1) 0 [.ref t, .int v1, .int v2, .int v3] [] h =
  mm_ci (f_Md_startOf [.ref t, .int v1, .int v2] h) fun x2 h1 =>
  mm_ci (f_Md_isFirst [.ref t, .int v1, .int v2, .int v3] h1) fun x4 h3 =>
  mm_run p_Md_goesOut f 22 [.ref t, .int v1, .int v2, .int v3, .int (x2 + 1), .int x4, .int v3] [] h3 := rfl
theorem e_Md_goesOut (t : Nat) (v1 : Int32) (v2 : Int32) (v3 : Int32) (h : mm_H) {fs : List Value} (hb : h t = some (.inr (12, fs))) : f_Md_goesOut [.ref t, .int v1, .int v2, .int v3] h =
  mm_ci (f_Md_startOf [.ref t, .int v1, .int v2] h) fun x2 h1 =>
  mm_ci (f_Md_isFirst [.ref t, .int v1, .int v2, .int v3] h1) fun x4 h3 =>
  mm_run p_Md_goesOut mm_fu 22 [.ref t, .int v1, .int v2, .int v3, .int (x2 + 1), .int x4, .int v3] [] h3 := (mm_ga_is rfl).trans ((mm_gd_is hb).trans (e_Md_goesOut_0 mm_fu t v1 v2 v3 h))
set_option maxRecDepth 100000 in
theorem e_Md_goesOut_22 (f : Nat) (t : Nat) (v1 : Int32) (v2 : Int32) (v3 : Int32) (v4 : Int32) (v5 : Int32) (v6 : Int32) (h : mm_H) : mm_run p_Md_goesOut (f + 1) 22 [.ref t, .int v1, .int v2, .int v3, .int v4, .int v5, .int v6] [] h =
  mm_ci (f_Md_entries [.ref t, .int v1, .int v2] h) fun x2 h1 =>
  if v6 < (x2 - 1) then
    (mm_gr 12 14 h1 t).bind fun r3 =>
    (mm_gr 12 14 h1 t).bind fun r4 =>
    (mm_li h1 r4 ((v4 + v6) + 1)).bind fun x5 =>
    (mm_si h1 r3 (v4 + v6) x5).bind fun h6 =>
    mm_run p_Md_goesOut f 22 [.ref t, .int v1, .int v2, .int v3, .int v4, .int v5, .int (v6 + 1)] [] h6
  else
    (mm_gr 12 14 h1 t).bind fun r7 =>
    (mm_li h1 r7 (v4 - 1)).bind fun x8 =>
    (mm_si h1 r7 (v4 - 1) (x8 - 1)).bind fun h9 =>
    if v5 = 0 then
      some (none, h9)
    else
      mm_ci (f_Md_entries [.ref t, .int v1, .int v2] h9) fun x11 h10 =>
      if v3 < x11 then
        mm_ci (f_Md_isFirst [.ref t, .int v1, .int v2, .int v3] h10) fun x13 h12 =>
        if x13 = 0 then
          (mm_gr 12 14 h12 t).bind fun r14 =>
          (mm_li h12 r14 (v4 + v3)).bind fun x15 =>
          (mm_si h12 r14 (v4 + v3) (x15 + 1)).bind fun h16 =>
          some (none, h16)
        else
          some (none, h12)
      else
        some (none, h10) := rfl
set_option maxRecDepth 100000 in
theorem i_Md_goesOut (l : Launch) : mm_Imp l yX12_goesOut cX12_goesOut 7 none 3 f_Md_goesOut := mm_imp l (P := p_Md_goesOut) mm_cls_ok mm_sys_ok (by decide) (mm_Pok_of (List.forall_mem_cons.mpr ⟨k_X12_123, (fun _ h => absurd h List.not_mem_nil)⟩) (List.forall_mem_cons.mpr ⟨v_Md_startOf l q_1811 (by decide), (List.forall_mem_cons.mpr ⟨v_Md_entries l q_1807 (by decide), (List.forall_mem_cons.mpr ⟨v_Md_isFirst l q_1815 (by decide), (fun _ h => absurd h List.not_mem_nil)⟩)⟩)⟩) (fun _ h => absurd h List.not_mem_nil) (fun _ h => absurd h List.not_mem_nil)) (by decide +kernel) rfl (cats := [1, 1, 1, 1]) (fun as h r e => ⟨(mm_ga_inv e).1, (mm_gd_inv (mm_ga_inv e).2).1⟩) rfl (by decide)
theorem v_Md_goesOut (l : Launch) {own : String} {i n0 : Nat} (hl : Cond.methodLink own i yX12_goesOut ∈ mm_tbl) (hn : 4 ≤ n0) : mm_cok l own n0 i (0, 3, 0, f_Md_goesOut) := Or.inr (Or.inr ⟨rfl, yX12_goesOut, cX12_goesOut, 7, none, 3, 12, TX12, 27, i_Md_goesOut l, hn, by decide, by decide +kernel, rfl, fun _ _ _ e => (mm_gd_inv (mm_ga_inv e).2).2, hl, q_2129, q_117, q_179, q_2130⟩)
def p_Md_takes : mm_P := ([(0, .aload_n 0, 1, 0), (1, .getfield 123, 3, 0), (4, .iload_n 1, 1, 0), (5, .iconst 3, 1, 3), (6, .iadd, 1, 0), (7, .dup2, 1, 0), (8, .iaload, 1, 0), (9, .aload_n 0, 1, 0), (10, .iload_n 1, 1, 0), (11, .iload_n 2, 1, 0), (12, .invokevirtual 329, 3, 0), (15, .iconst 2, 1, 2), (16, .iadd, 1, 0), (17, .iadd, 1, 0), (18, .iastore, 1, 0), (19, .aload_n 0, 1, 0), (20, .iload_n 1, 1, 0), (21, .iload_n 2, 1, 0), (22, .aload_n 0, 1, 0), (23, .iload_n 1, 1, 0), (24, .iload_n 2, 1, 0), (25, .iload_n 3, 1, 0), (26, .invokevirtual 332, 3, 0), (29, .invokevirtual 338, 3, 0), (32, .return_, 1, 0)], [(123, 12, 14, 4)], [(329, 0, 2, 1, f_Md_height), (332, 0, 3, 1, f_Md_placeFor), (338, 0, 3, 0, f_Md_goesOut)], [], [], [(0, [0, 1, 2, 3])], [], 0)
def f_Md_takes : mm_F := fun args h => mm_ga [1, 1, 1, 1] args (mm_gd 12 args h (mm_run p_Md_takes (mm_fu + 1) 0 args [] h))
set_option maxRecDepth 100000 in
theorem e_Md_takes_0 (f : Nat) (t : Nat) (v1 : Int32) (v2 : Int32) (v3 : Int32) (h : mm_H) : mm_run p_Md_takes (f + 1) 0 [.ref t, .int v1, .int v2, .int v3] [] h =
  (mm_gr 12 14 h t).bind fun r1 =>
  (mm_li h r1 (v1 + 3)).bind fun x2 =>
  mm_ci (f_Md_height [.ref t, .int v1, .int v2] h) fun x4 h3 =>
  (mm_si h3 r1 (v1 + 3) (x2 + (x4 + 2))).bind fun h5 =>
  mm_ci (f_Md_placeFor [.ref t, .int v1, .int v2, .int v3] h5) fun x7 h6 =>
  mm_cv (f_Md_goesOut [.ref t, .int v1, .int v2, .int x7] h6) fun h8 =>
  some (none, h8) := rfl
theorem e_Md_takes (t : Nat) (v1 : Int32) (v2 : Int32) (v3 : Int32) (h : mm_H) {fs : List Value} (hb : h t = some (.inr (12, fs))) : f_Md_takes [.ref t, .int v1, .int v2, .int v3] h =
  (mm_gr 12 14 h t).bind fun r1 =>
  (mm_li h r1 (v1 + 3)).bind fun x2 =>
  mm_ci (f_Md_height [.ref t, .int v1, .int v2] h) fun x4 h3 =>
  (mm_si h3 r1 (v1 + 3) (x2 + (x4 + 2))).bind fun h5 =>
  mm_ci (f_Md_placeFor [.ref t, .int v1, .int v2, .int v3] h5) fun x7 h6 =>
  mm_cv (f_Md_goesOut [.ref t, .int v1, .int v2, .int x7] h6) fun h8 =>
  some (none, h8) := (mm_ga_is rfl).trans ((mm_gd_is hb).trans (e_Md_takes_0 mm_fu t v1 v2 v3 h))
set_option maxRecDepth 100000 in
theorem i_Md_takes (l : Launch) : mm_Imp l yX12_takes cX12_takes 4 none 5 f_Md_takes := mm_imp l (P := p_Md_takes) mm_cls_ok mm_sys_ok (by decide) (mm_Pok_of (List.forall_mem_cons.mpr ⟨k_X12_123, (fun _ h => absurd h List.not_mem_nil)⟩) (List.forall_mem_cons.mpr ⟨v_Md_height l q_1799 (by decide), (List.forall_mem_cons.mpr ⟨v_Md_placeFor l q_1823 (by decide), (List.forall_mem_cons.mpr ⟨v_Md_goesOut l q_2127 (by decide), (fun _ h => absurd h List.not_mem_nil)⟩)⟩)⟩) (fun _ h => absurd h List.not_mem_nil) (fun _ h => absurd h List.not_mem_nil)) (by decide +kernel) rfl (cats := [1, 1, 1, 1]) (fun as h r e => ⟨(mm_ga_inv e).1, (mm_gd_inv (mm_ga_inv e).2).1⟩) rfl (by decide)
theorem v_Md_takes (l : Launch) {own : String} {i n0 : Nat} (hl : Cond.methodLink own i yX12_takes ∈ mm_tbl) (hn : 6 ≤ n0) : mm_cok l own n0 i (0, 3, 0, f_Md_takes) := Or.inr (Or.inr ⟨rfl, yX12_takes, cX12_takes, 4, none, 5, 12, TX12, 27, i_Md_takes l, hn, by decide, by decide +kernel, rfl, fun _ _ _ e => (mm_gd_inv (mm_ga_inv e).2).2, hl, q_2125, q_116, q_179, q_2126⟩)
def p_Md_wouldChoose : mm_P := ([(0, .iconst 0, 1, 0), (1, .istore_n 2, 1, 0), (2, .iconst 0, 1, 0), (3, .istore_n 3, 1, 0), (4, .iload_n 3, 1, 0), (5, .bipush 30, 2, 30), (7, .if_icmp .ge 41, 3, 0), (10, .iload_n 2, 1, 0), (11, .aload_n 0, 1, 0), (12, .iload_n 1, 1, 0), (13, .invokevirtual 279, 3, 0), (16, .iload_n 3, 1, 0), (17, .invokestatic 282, 3, 0), (20, .ifCond .eq 19, 3, 0), (23, .aload_n 0, 1, 0), (24, .iload_n 1, 1, 0), (25, .iconst 0, 1, 0), (26, .iload_n 3, 1, 0), (27, .invokevirtual 302, 3, 0), (30, .ifCond .eq 9, 3, 0), (33, .iconst 1, 1, 1), (34, .iload_n 3, 1, 0), (35, .ishl, 1, 0), (36, .goto 4, 3, 0), (39, .iconst 0, 1, 0), (40, .ior, 1, 0), (41, .istore_n 2, 1, 0), (42, .iinc 3 1, 3, 1), (45, .goto (-41), 3, 0), (48, .iload_n 2, 1, 0), (49, .ireturn, 1, 0)], [], [(279, 0, 1, 1, f_Md_visible), (282, 1, 2, 1, f_Md_has), (302, 0, 3, 1, f_Md_isSo)], [], [], [(0, [0, 1]), (4, [0, 1, 2, 3])], [], 2)
def f_Md_wouldChoose : mm_F := fun args h => mm_ga [1, 1] args (mm_gd 12 args h (mm_run p_Md_wouldChoose (mm_fu + 1) 0 args [] h))
set_option maxRecDepth 100000 in
theorem e_Md_wouldChoose_0 (f : Nat) (t : Nat) (v1 : Int32) (h : mm_H) : mm_run p_Md_wouldChoose (f + 1) 0 [.ref t, .int v1] [] h =
  mm_run p_Md_wouldChoose f 4 [.ref t, .int v1, .int 0, .int 0] [] h := rfl
theorem e_Md_wouldChoose (t : Nat) (v1 : Int32) (h : mm_H) {fs : List Value} (hb : h t = some (.inr (12, fs))) : f_Md_wouldChoose [.ref t, .int v1] h =
  mm_run p_Md_wouldChoose mm_fu 4 [.ref t, .int v1, .int 0, .int 0] [] h := (mm_ga_is rfl).trans ((mm_gd_is hb).trans (e_Md_wouldChoose_0 mm_fu t v1 h))
set_option maxRecDepth 100000 in
theorem e_Md_wouldChoose_4 (f : Nat) (t : Nat) (v1 : Int32) (v2 : Int32) (v3 : Int32) (h : mm_H) : mm_run p_Md_wouldChoose (f + 1) 4 [.ref t, .int v1, .int v2, .int v3] [] h =
  if v3 < 30 then
    mm_ci (f_Md_visible [.ref t, .int v1] h) fun x2 h1 =>
    mm_ci (f_Md_has [.int x2, .int v3] h1) fun x4 h3 =>
    if x4 = 0 then
      mm_run p_Md_wouldChoose f 4 [.ref t, .int v1, .int (v2 ||| 0), .int (v3 + 1)] [] h3
    else
      mm_ci (f_Md_isSo [.ref t, .int v1, .int 0, .int v3] h3) fun x6 h5 =>
      if x6 = 0 then
        mm_run p_Md_wouldChoose f 4 [.ref t, .int v1, .int (v2 ||| 0), .int (v3 + 1)] [] h5
      else
        mm_run p_Md_wouldChoose f 4 [.ref t, .int v1, .int (v2 ||| (1 <<< (v3 &&& 31))), .int (v3 + 1)] [] h5
  else
    some (some (.int v2), h) := rfl
set_option maxRecDepth 100000 in
theorem i_Md_wouldChoose (l : Launch) : mm_Imp l yX12_wouldChoose cX12_wouldChoose 4 (some .int) 6 f_Md_wouldChoose := mm_imp l (P := p_Md_wouldChoose) mm_cls_ok mm_sys_ok (by decide) (mm_Pok_of (fun _ h => absurd h List.not_mem_nil) (List.forall_mem_cons.mpr ⟨v_Md_visible l q_1772 (by decide), (List.forall_mem_cons.mpr ⟨v_Md_has l (Or.inl q_1780) (by decide), (List.forall_mem_cons.mpr ⟨v_Md_isSo l q_1753 (by decide), (fun _ h => absurd h List.not_mem_nil)⟩)⟩)⟩) (fun _ h => absurd h List.not_mem_nil) (fun _ h => absurd h List.not_mem_nil)) (by decide +kernel) rfl (cats := [1, 1]) (fun as h r e => ⟨(mm_ga_inv e).1, (mm_gd_inv (mm_ga_inv e).2).1⟩) rfl (by decide)
theorem v_Md_wouldChoose (l : Launch) {own : String} {i n0 : Nat} (hl : Cond.methodLink own i yX12_wouldChoose ∈ mm_tbl) (hn : 7 ≤ n0) : mm_cok l own n0 i (0, 1, 1, f_Md_wouldChoose) := Or.inr (Or.inr ⟨rfl, yX12_wouldChoose, cX12_wouldChoose, 4, (some .int), 6, 12, TX12, 27, i_Md_wouldChoose l, hn, by decide, by decide +kernel, rfl, fun _ _ _ e => (mm_gd_inv (mm_ga_inv e).2).2, hl, q_2164, q_121, q_179, q_2165⟩)
def p_Md_chosenBy : mm_P := ([(0, .aload_n 0, 1, 0), (1, .getfield 123, 3, 0), (4, .iload_n 1, 1, 0), (5, .iconst 5, 1, 5), (6, .iadd, 1, 0), (7, .iaload, 1, 0), (8, .iconst 1, 1, 1), (9, .if_icmp .ne 14, 3, 0), (12, .aload_n 0, 1, 0), (13, .getfield 123, 3, 0), (16, .iload_n 1, 1, 0), (17, .iconst 1, 1, 1), (18, .iadd, 1, 0), (19, .iaload, 1, 0), (20, .goto 8, 3, 0), (23, .aload_n 0, 1, 0), (24, .iload_n 1, 1, 0), (25, .invokevirtual 341, 3, 0), (28, .ireturn, 1, 0)], [(123, 12, 14, 4)], [(341, 0, 1, 1, f_Md_wouldChoose)], [], [], [(0, [0, 1])], [], 2)
def f_Md_chosenBy : mm_F := fun args h => mm_ga [1, 1] args (mm_gd 12 args h (mm_run p_Md_chosenBy (mm_fu + 1) 0 args [] h))
set_option maxRecDepth 100000 in
theorem e_Md_chosenBy_0 (f : Nat) (t : Nat) (v1 : Int32) (h : mm_H) : mm_run p_Md_chosenBy (f + 1) 0 [.ref t, .int v1] [] h =
  (mm_gr 12 14 h t).bind fun r1 =>
  (mm_li h r1 (v1 + 5)).bind fun x2 =>
  if x2 = 1 then
    (mm_gr 12 14 h t).bind fun r3 =>
    (mm_li h r3 (v1 + 1)).bind fun x4 =>
    some (some (.int x4), h)
  else
    mm_ci (f_Md_wouldChoose [.ref t, .int v1] h) fun x6 h5 =>
    some (some (.int x6), h5) := rfl
theorem e_Md_chosenBy (t : Nat) (v1 : Int32) (h : mm_H) {fs : List Value} (hb : h t = some (.inr (12, fs))) : f_Md_chosenBy [.ref t, .int v1] h =
  (mm_gr 12 14 h t).bind fun r1 =>
  (mm_li h r1 (v1 + 5)).bind fun x2 =>
  if x2 = 1 then
    (mm_gr 12 14 h t).bind fun r3 =>
    (mm_li h r3 (v1 + 1)).bind fun x4 =>
    some (some (.int x4), h)
  else
    mm_ci (f_Md_wouldChoose [.ref t, .int v1] h) fun x6 h5 =>
    some (some (.int x6), h5) := (mm_ga_is rfl).trans ((mm_gd_is hb).trans (e_Md_chosenBy_0 mm_fu t v1 h))
set_option maxRecDepth 100000 in
theorem i_Md_chosenBy (l : Launch) : mm_Imp l yX12_chosenBy cX12_chosenBy 2 (some .int) 7 f_Md_chosenBy := mm_imp l (P := p_Md_chosenBy) mm_cls_ok mm_sys_ok (by decide) (mm_Pok_of (List.forall_mem_cons.mpr ⟨k_X12_123, (fun _ h => absurd h List.not_mem_nil)⟩) (List.forall_mem_cons.mpr ⟨v_Md_wouldChoose l q_2162 (by decide), (fun _ h => absurd h List.not_mem_nil)⟩) (fun _ h => absurd h List.not_mem_nil) (fun _ h => absurd h List.not_mem_nil)) (by decide +kernel) rfl (cats := [1, 1]) (fun as h r e => ⟨(mm_ga_inv e).1, (mm_gd_inv (mm_ga_inv e).2).1⟩) rfl (by decide)
theorem v_Md_chosenBy (l : Launch) {own : String} {i n0 : Nat} (hl : Cond.methodLink own i yX12_chosenBy ∈ mm_tbl) (hn : 8 ≤ n0) : mm_cok l own n0 i (0, 1, 1, f_Md_chosenBy) := Or.inr (Or.inr ⟨rfl, yX12_chosenBy, cX12_chosenBy, 2, (some .int), 7, 12, TX12, 27, i_Md_chosenBy l, hn, by decide, by decide +kernel, rfl, fun _ _ _ e => (mm_gd_inv (mm_ga_inv e).2).2, hl, q_2239, q_138, q_179, q_2240⟩)
def p_Md_leftMany : mm_P := ([(0, .iconst 0, 1, 0), (1, .istore 4, 2, 0), (3, .iconst 0, 1, 0), (4, .istore 5, 2, 0), (6, .iload 5, 2, 0), (8, .aload_n 0, 1, 0), (9, .iload_n 1, 1, 0), (10, .iload_n 2, 1, 0), (11, .invokevirtual 311, 3, 0), (14, .if_icmp .ge 34, 3, 0), (17, .iload 4, 2, 0), (19, .iload_n 3, 1, 0), (20, .aload_n 0, 1, 0), (21, .iload_n 1, 1, 0), (22, .iload_n 2, 1, 0), (23, .iload 5, 2, 0), (25, .invokevirtual 344, 3, 0), (28, .invokestatic 282, 3, 0), (31, .ifCond .eq 7, 3, 0), (34, .iconst 1, 1, 1), (35, .goto 4, 3, 0), (38, .iconst 0, 1, 0), (39, .iadd, 1, 0), (40, .istore 4, 2, 0), (42, .iinc 5 1, 3, 1), (45, .goto (-39), 3, 0), (48, .iload 4, 2, 0), (50, .ireturn, 1, 0)], [], [(282, 1, 2, 1, f_Md_has), (311, 0, 2, 1, f_Md_entries), (344, 0, 3, 1, f_Md_rowAt)], [], [], [(0, [0, 1, 2, 3]), (6, [0, 1, 2, 3, 4, 5])], [], 2)
def f_Md_leftMany : mm_F := fun args h => mm_ga [1, 1, 1, 1] args (mm_gd 12 args h (mm_run p_Md_leftMany (mm_fu + 1) 0 args [] h))
set_option maxRecDepth 100000 in
theorem e_Md_leftMany_0 (f : Nat) (t : Nat) (v1 : Int32) (v2 : Int32) (v3 : Int32) (h : mm_H) : mm_run p_Md_leftMany (f + 1) 0 [.ref t, .int v1, .int v2, .int v3] [] h =
  mm_run p_Md_leftMany f 6 [.ref t, .int v1, .int v2, .int v3, .int 0, .int 0] [] h := rfl
theorem e_Md_leftMany (t : Nat) (v1 : Int32) (v2 : Int32) (v3 : Int32) (h : mm_H) {fs : List Value} (hb : h t = some (.inr (12, fs))) : f_Md_leftMany [.ref t, .int v1, .int v2, .int v3] h =
  mm_run p_Md_leftMany mm_fu 6 [.ref t, .int v1, .int v2, .int v3, .int 0, .int 0] [] h := (mm_ga_is rfl).trans ((mm_gd_is hb).trans (e_Md_leftMany_0 mm_fu t v1 v2 v3 h))
set_option maxRecDepth 100000 in
theorem e_Md_leftMany_6 (f : Nat) (t : Nat) (v1 : Int32) (v2 : Int32) (v3 : Int32) (v4 : Int32) (v5 : Int32) (h : mm_H) : mm_run p_Md_leftMany (f + 1) 6 [.ref t, .int v1, .int v2, .int v3, .int v4, .int v5] [] h =
  mm_ci (f_Md_entries [.ref t, .int v1, .int v2] h) fun x2 h1 =>
  if v5 < x2 then
    mm_ci (f_Md_rowAt [.ref t, .int v1, .int v2, .int v5] h1) fun x4 h3 =>
    mm_ci (f_Md_has [.int v3, .int x4] h3) fun x6 h5 =>
    if x6 = 0 then
      mm_run p_Md_leftMany f 6 [.ref t, .int v1, .int v2, .int v3, .int (v4 + 0), .int (v5 + 1)] [] h5
    else
      mm_run p_Md_leftMany f 6 [.ref t, .int v1, .int v2, .int v3, .int (v4 + 1), .int (v5 + 1)] [] h5
  else
    some (some (.int v4), h1) := rfl
set_option maxRecDepth 100000 in
theorem i_Md_leftMany (l : Launch) : mm_Imp l yX12_leftMany cX12_leftMany 6 (some .int) 4 f_Md_leftMany := mm_imp l (P := p_Md_leftMany) mm_cls_ok mm_sys_ok (by decide) (mm_Pok_of (fun _ h => absurd h List.not_mem_nil) (List.forall_mem_cons.mpr ⟨v_Md_has l (Or.inl q_1780) (by decide), (List.forall_mem_cons.mpr ⟨v_Md_entries l q_1807 (by decide), (List.forall_mem_cons.mpr ⟨v_Md_rowAt l q_2170 (by decide), (fun _ h => absurd h List.not_mem_nil)⟩)⟩)⟩) (fun _ h => absurd h List.not_mem_nil) (fun _ h => absurd h List.not_mem_nil)) (by decide +kernel) rfl (cats := [1, 1, 1, 1]) (fun as h r e => ⟨(mm_ga_inv e).1, (mm_gd_inv (mm_ga_inv e).2).1⟩) rfl (by decide)
theorem v_Md_leftMany (l : Launch) {own : String} {i n0 : Nat} (hl : Cond.methodLink own i yX12_leftMany ∈ mm_tbl) (hn : 5 ≤ n0) : mm_cok l own n0 i (0, 3, 1, f_Md_leftMany) := Or.inr (Or.inr ⟨rfl, yX12_leftMany, cX12_leftMany, 6, (some .int), 4, 12, TX12, 27, i_Md_leftMany l, hn, by decide, by decide +kernel, rfl, fun _ _ _ e => (mm_gd_inv (mm_ga_inv e).2).2, hl, q_2196, q_129, q_179, q_2197⟩)
def p_Md_passCost : mm_P := ([(0, .iconst 0, 1, 0), (1, .istore 4, 2, 0), (3, .iconst 0, 1, 0), (4, .istore 5, 2, 0), (6, .iconst 0, 1, 0), (7, .istore 6, 2, 0), (9, .iconst 0, 1, 0), (10, .istore 7, 2, 0), (12, .iconst 0, 1, 0), (13, .istore 8, 2, 0), (15, .iload 8, 2, 0), (17, .aload_n 0, 1, 0), (18, .iload_n 1, 1, 0), (19, .iload_n 2, 1, 0), (20, .invokevirtual 311, 3, 0), (23, .if_icmp .ge 73, 3, 0), (26, .iload 4, 2, 0), (28, .aload_n 0, 1, 0), (29, .iload_n 1, 1, 0), (30, .iload_n 2, 1, 0), (31, .iload 8, 2, 0), (33, .invokevirtual 314, 3, 0), (36, .ifCond .eq 7, 3, 0), (39, .iconst 1, 1, 1), (40, .goto 4, 3, 0), (43, .iconst 0, 1, 0), (44, .iadd, 1, 0), (45, .istore 4, 2, 0), (47, .iload_n 3, 1, 0), (48, .aload_n 0, 1, 0), (49, .iload_n 1, 1, 0), (50, .iload_n 2, 1, 0), (51, .iload 8, 2, 0), (53, .invokevirtual 344, 3, 0), (56, .invokestatic 282, 3, 0), (59, .ifCond .eq 31, 3, 0), (62, .iload 4, 2, 0), (64, .iload 6, 2, 0), (66, .if_icmp .le 24, 3, 0), (69, .iload 7, 2, 0), (71, .ifCond .ne 8, 3, 0), (74, .iload 4, 2, 0), (76, .goto 5, 3, 0), (79, .iload 5, 2, 0), (81, .istore 5, 2, 0), (83, .iload 4, 2, 0), (85, .istore 6, 2, 0), (87, .iinc 7 1, 3, 1), (90, .iinc 8 1, 3, 1), (93, .goto (-78), 3, 0), (96, .iload 7, 2, 0), (98, .ifCond .ne 7, 3, 0), (101, .iconst 0, 1, 0), (102, .goto 20, 3, 0), (105, .aload_n 0, 1, 0), (106, .iload_n 1, 1, 0), (107, .iload_n 2, 1, 0), (108, .invokevirtual 329, 3, 0), (111, .iload 6, 2, 0), (113, .iadd, 1, 0), (114, .iload 5, 2, 0), (116, .isub, 1, 0), (117, .iconst 1, 1, 1), (118, .iadd, 1, 0), (119, .iload 7, 2, 0), (121, .iadd, 1, 0), (122, .ireturn, 1, 0)], [], [(282, 1, 2, 1, f_Md_has), (311, 0, 2, 1, f_Md_entries), (314, 0, 3, 1, f_Md_isFirst), (329, 0, 2, 1, f_Md_height), (344, 0, 3, 1, f_Md_rowAt)], [], [], [(0, [0, 1, 2, 3]), (15, [0, 1, 2, 3, 4, 5, 6, 7, 8])], [], 2)
def f_Md_passCost : mm_F := fun args h => mm_ga [1, 1, 1, 1] args (mm_gd 12 args h (mm_run p_Md_passCost (mm_fu + 1) 0 args [] h))
set_option maxRecDepth 100000 in
theorem e_Md_passCost_0 (f : Nat) (t : Nat) (v1 : Int32) (v2 : Int32) (v3 : Int32) (h : mm_H) : mm_run p_Md_passCost (f + 1) 0 [.ref t, .int v1, .int v2, .int v3] [] h =
  mm_run p_Md_passCost f 15 [.ref t, .int v1, .int v2, .int v3, .int 0, .int 0, .int 0, .int 0, .int 0] [] h := rfl
theorem e_Md_passCost (t : Nat) (v1 : Int32) (v2 : Int32) (v3 : Int32) (h : mm_H) {fs : List Value} (hb : h t = some (.inr (12, fs))) : f_Md_passCost [.ref t, .int v1, .int v2, .int v3] h =
  mm_run p_Md_passCost mm_fu 15 [.ref t, .int v1, .int v2, .int v3, .int 0, .int 0, .int 0, .int 0, .int 0] [] h := (mm_ga_is rfl).trans ((mm_gd_is hb).trans (e_Md_passCost_0 mm_fu t v1 v2 v3 h))
set_option maxRecDepth 100000 in
theorem e_Md_passCost_15 (f : Nat) (t : Nat) (v1 : Int32) (v2 : Int32) (v3 : Int32) (v4 : Int32) (v5 : Int32) (v6 : Int32) (v7 : Int32) (v8 : Int32) (h : mm_H) : mm_run p_Md_passCost (f + 1) 15 [.ref t, .int v1, .int v2, .int v3, .int v4, .int v5, .int v6, .int v7, .int v8] [] h =
  mm_ci (f_Md_entries [.ref t, .int v1, .int v2] h) fun x2 h1 =>
  if v8 < x2 then
    mm_ci (f_Md_isFirst [.ref t, .int v1, .int v2, .int v8] h1) fun x4 h3 =>
    if x4 = 0 then
      mm_ci (f_Md_rowAt [.ref t, .int v1, .int v2, .int v8] h3) fun x6 h5 =>
      mm_ci (f_Md_has [.int v3, .int x6] h5) fun x8 h7 =>
      if x8 = 0 then
        mm_run p_Md_passCost f 15 [.ref t, .int v1, .int v2, .int v3, .int (v4 + 0), .int v5, .int v6, .int v7, .int (v8 + 1)] [] h7
      else
        if v6 < (v4 + 0) then
          if v7 = 0 then
            mm_run p_Md_passCost f 15 [.ref t, .int v1, .int v2, .int v3, .int (v4 + 0), .int (v4 + 0), .int (v4 + 0), .int (v7 + 1), .int (v8 + 1)] [] h7
          else
            mm_run p_Md_passCost f 15 [.ref t, .int v1, .int v2, .int v3, .int (v4 + 0), .int v5, .int (v4 + 0), .int (v7 + 1), .int (v8 + 1)] [] h7
        else
          mm_run p_Md_passCost f 15 [.ref t, .int v1, .int v2, .int v3, .int (v4 + 0), .int v5, .int v6, .int v7, .int (v8 + 1)] [] h7
    else
      mm_ci (f_Md_rowAt [.ref t, .int v1, .int v2, .int v8] h3) fun x10 h9 =>
      mm_ci (f_Md_has [.int v3, .int x10] h9) fun x12 h11 =>
      if x12 = 0 then
        mm_run p_Md_passCost f 15 [.ref t, .int v1, .int v2, .int v3, .int (v4 + 1), .int v5, .int v6, .int v7, .int (v8 + 1)] [] h11
      else
        if v6 < (v4 + 1) then
          if v7 = 0 then
            mm_run p_Md_passCost f 15 [.ref t, .int v1, .int v2, .int v3, .int (v4 + 1), .int (v4 + 1), .int (v4 + 1), .int (v7 + 1), .int (v8 + 1)] [] h11
          else
            mm_run p_Md_passCost f 15 [.ref t, .int v1, .int v2, .int v3, .int (v4 + 1), .int v5, .int (v4 + 1), .int (v7 + 1), .int (v8 + 1)] [] h11
        else
          mm_run p_Md_passCost f 15 [.ref t, .int v1, .int v2, .int v3, .int (v4 + 1), .int v5, .int v6, .int v7, .int (v8 + 1)] [] h11
  else
    if v7 = 0 then
      some (some (.int 0), h1)
    else
      mm_ci (f_Md_height [.ref t, .int v1, .int v2] h1) fun x14 h13 =>
      some (some (.int ((((x14 + v6) - v5) + 1) + v7)), h13) := rfl
set_option maxRecDepth 100000 in
theorem i_Md_passCost (l : Launch) : mm_Imp l yX12_passCost cX12_passCost 9 (some .int) 5 f_Md_passCost := mm_imp l (P := p_Md_passCost) mm_cls_ok mm_sys_ok (by decide) (mm_Pok_of (fun _ h => absurd h List.not_mem_nil) (List.forall_mem_cons.mpr ⟨v_Md_has l (Or.inl q_1780) (by decide), (List.forall_mem_cons.mpr ⟨v_Md_entries l q_1807 (by decide), (List.forall_mem_cons.mpr ⟨v_Md_isFirst l q_1815 (by decide), (List.forall_mem_cons.mpr ⟨v_Md_height l q_1799 (by decide), (List.forall_mem_cons.mpr ⟨v_Md_rowAt l q_2170 (by decide), (fun _ h => absurd h List.not_mem_nil)⟩)⟩)⟩)⟩)⟩) (fun _ h => absurd h List.not_mem_nil) (fun _ h => absurd h List.not_mem_nil)) (by decide +kernel) rfl (cats := [1, 1, 1, 1]) (fun as h r e => ⟨(mm_ga_inv e).1, (mm_gd_inv (mm_ga_inv e).2).1⟩) rfl (by decide)
theorem v_Md_passCost (l : Launch) {own : String} {i n0 : Nat} (hl : Cond.methodLink own i yX12_passCost ∈ mm_tbl) (hn : 6 ≤ n0) : mm_cok l own n0 i (0, 3, 1, f_Md_passCost) := Or.inr (Or.inr ⟨rfl, yX12_passCost, cX12_passCost, 9, (some .int), 5, 12, TX12, 27, i_Md_passCost l, hn, by decide, by decide +kernel, rfl, fun _ _ _ e => (mm_gd_inv (mm_ga_inv e).2).2, hl, q_2204, q_131, q_179, q_2205⟩)
def p_Md_probeCost : mm_P := ([(0, .aload_n 0, 1, 0), (1, .iload_n 1, 1, 0), (2, .iload_n 2, 1, 0), (3, .iload_n 3, 1, 0), (4, .invokevirtual 347, 3, 0), (7, .aload_n 0, 1, 0), (8, .iload_n 1, 1, 0), (9, .iload_n 2, 1, 0), (10, .invokevirtual 329, 3, 0), (13, .iconst 2, 1, 2), (14, .iadd, 1, 0), (15, .imul, 1, 0), (16, .ireturn, 1, 0)], [], [(329, 0, 2, 1, f_Md_height), (347, 0, 3, 1, f_Md_leftMany)], [], [], [(0, [0, 1, 2, 3])], [], 2)
def f_Md_probeCost : mm_F := fun args h => mm_ga [1, 1, 1, 1] args (mm_gd 12 args h (mm_run p_Md_probeCost (mm_fu + 1) 0 args [] h))
set_option maxRecDepth 100000 in
theorem e_Md_probeCost_0 (f : Nat) (t : Nat) (v1 : Int32) (v2 : Int32) (v3 : Int32) (h : mm_H) : mm_run p_Md_probeCost (f + 1) 0 [.ref t, .int v1, .int v2, .int v3] [] h =
  mm_ci (f_Md_leftMany [.ref t, .int v1, .int v2, .int v3] h) fun x2 h1 =>
  mm_ci (f_Md_height [.ref t, .int v1, .int v2] h1) fun x4 h3 =>
  some (some (.int (x2 * (x4 + 2))), h3) := rfl
theorem e_Md_probeCost (t : Nat) (v1 : Int32) (v2 : Int32) (v3 : Int32) (h : mm_H) {fs : List Value} (hb : h t = some (.inr (12, fs))) : f_Md_probeCost [.ref t, .int v1, .int v2, .int v3] h =
  mm_ci (f_Md_leftMany [.ref t, .int v1, .int v2, .int v3] h) fun x2 h1 =>
  mm_ci (f_Md_height [.ref t, .int v1, .int v2] h1) fun x4 h3 =>
  some (some (.int (x2 * (x4 + 2))), h3) := (mm_ga_is rfl).trans ((mm_gd_is hb).trans (e_Md_probeCost_0 mm_fu t v1 v2 v3 h))
set_option maxRecDepth 100000 in
theorem i_Md_probeCost (l : Launch) : mm_Imp l yX12_probeCost cX12_probeCost 4 (some .int) 5 f_Md_probeCost := mm_imp l (P := p_Md_probeCost) mm_cls_ok mm_sys_ok (by decide) (mm_Pok_of (fun _ h => absurd h List.not_mem_nil) (List.forall_mem_cons.mpr ⟨v_Md_height l q_1799 (by decide), (List.forall_mem_cons.mpr ⟨v_Md_leftMany l q_2194 (by decide), (fun _ h => absurd h List.not_mem_nil)⟩)⟩) (fun _ h => absurd h List.not_mem_nil) (fun _ h => absurd h List.not_mem_nil)) (by decide +kernel) rfl (cats := [1, 1, 1, 1]) (fun as h r e => ⟨(mm_ga_inv e).1, (mm_gd_inv (mm_ga_inv e).2).1⟩) rfl (by decide)
theorem v_Md_probeCost (l : Launch) {own : String} {i n0 : Nat} (hl : Cond.methodLink own i yX12_probeCost ∈ mm_tbl) (hn : 6 ≤ n0) : mm_cok l own n0 i (0, 3, 1, f_Md_probeCost) := Or.inr (Or.inr ⟨rfl, yX12_probeCost, cX12_probeCost, 4, (some .int), 5, 12, TX12, 27, i_Md_probeCost l, hn, by decide, by decide +kernel, rfl, fun _ _ _ e => (mm_gd_inv (mm_ga_inv e).2).2, hl, q_2208, q_132, q_179, q_2209⟩)
def p_Md_wayBy : mm_P := ([(0, .aload_n 0, 1, 0), (1, .iload_n 1, 1, 0), (2, .iload_n 2, 1, 0), (3, .iload_n 3, 1, 0), (4, .invokevirtual 350, 3, 0), (7, .aload_n 0, 1, 0), (8, .iload_n 1, 1, 0), (9, .iload_n 2, 1, 0), (10, .iload_n 3, 1, 0), (11, .invokevirtual 353, 3, 0), (14, .if_icmp .gt 7, 3, 0), (17, .iconst 0, 1, 0), (18, .goto 4, 3, 0), (21, .iconst 1, 1, 1), (22, .ireturn, 1, 0)], [], [(350, 0, 3, 1, f_Md_passCost), (353, 0, 3, 1, f_Md_probeCost)], [], [], [(0, [0, 1, 2, 3])], [], 2)
def f_Md_wayBy : mm_F := fun args h => mm_ga [1, 1, 1, 1] args (mm_gd 12 args h (mm_run p_Md_wayBy (mm_fu + 1) 0 args [] h))
set_option maxRecDepth 100000 in
theorem e_Md_wayBy_0 (f : Nat) (t : Nat) (v1 : Int32) (v2 : Int32) (v3 : Int32) (h : mm_H) : mm_run p_Md_wayBy (f + 1) 0 [.ref t, .int v1, .int v2, .int v3] [] h =
  mm_ci (f_Md_passCost [.ref t, .int v1, .int v2, .int v3] h) fun x2 h1 =>
  mm_ci (f_Md_probeCost [.ref t, .int v1, .int v2, .int v3] h1) fun x4 h3 =>
  if x4 < x2 then
    some (some (.int 1), h3)
  else
    some (some (.int 0), h3) := rfl
theorem e_Md_wayBy (t : Nat) (v1 : Int32) (v2 : Int32) (v3 : Int32) (h : mm_H) {fs : List Value} (hb : h t = some (.inr (12, fs))) : f_Md_wayBy [.ref t, .int v1, .int v2, .int v3] h =
  mm_ci (f_Md_passCost [.ref t, .int v1, .int v2, .int v3] h) fun x2 h1 =>
  mm_ci (f_Md_probeCost [.ref t, .int v1, .int v2, .int v3] h1) fun x4 h3 =>
  if x4 < x2 then
    some (some (.int 1), h3)
  else
    some (some (.int 0), h3) := (mm_ga_is rfl).trans ((mm_gd_is hb).trans (e_Md_wayBy_0 mm_fu t v1 v2 v3 h))
set_option maxRecDepth 100000 in
theorem i_Md_wayBy (l : Launch) : mm_Imp l yX12_wayBy cX12_wayBy 4 (some .int) 6 f_Md_wayBy := mm_imp l (P := p_Md_wayBy) mm_cls_ok mm_sys_ok (by decide) (mm_Pok_of (fun _ h => absurd h List.not_mem_nil) (List.forall_mem_cons.mpr ⟨v_Md_passCost l q_2202 (by decide), (List.forall_mem_cons.mpr ⟨v_Md_probeCost l q_2206 (by decide), (fun _ h => absurd h List.not_mem_nil)⟩)⟩) (fun _ h => absurd h List.not_mem_nil) (fun _ h => absurd h List.not_mem_nil)) (by decide +kernel) rfl (cats := [1, 1, 1, 1]) (fun as h r e => ⟨(mm_ga_inv e).1, (mm_gd_inv (mm_ga_inv e).2).1⟩) rfl (by decide)
theorem v_Md_wayBy (l : Launch) {own : String} {i n0 : Nat} (hl : Cond.methodLink own i yX12_wayBy ∈ mm_tbl) (hn : 7 ≤ n0) : mm_cok l own n0 i (0, 3, 1, f_Md_wayBy) := Or.inr (Or.inr ⟨rfl, yX12_wayBy, cX12_wayBy, 4, (some .int), 6, 12, TX12, 27, i_Md_wayBy l, hn, by decide, by decide +kernel, rfl, fun _ _ _ e => (mm_gd_inv (mm_ga_inv e).2).2, hl, q_2200, q_130, q_179, q_2201⟩)
def p_Md_leftAt : mm_P := ([(0, .aload_n 0, 1, 0), (1, .iload_n 1, 1, 0), (2, .invokevirtual 356, 3, 0), (5, .istore 5, 2, 0), (7, .iconst (-1), 1, (-1)), (8, .istore 6, 2, 0), (10, .iconst 0, 1, 0), (11, .istore 7, 2, 0), (13, .iload 7, 2, 0), (15, .aload_n 0, 1, 0), (16, .iload_n 1, 1, 0), (17, .iload_n 2, 1, 0), (18, .invokevirtual 311, 3, 0), (21, .if_icmp .ge 140, 3, 0), (24, .iconst 0, 1, 0), (25, .istore 8, 2, 0), (27, .iconst 0, 1, 0), (28, .istore 9, 2, 0), (30, .iload 9, 2, 0), (32, .aload_n 0, 1, 0), (33, .iload_n 1, 1, 0), (34, .iload_n 2, 1, 0), (35, .invokevirtual 311, 3, 0), (38, .if_icmp .ge 85, 3, 0), (41, .iload_n 3, 1, 0), (42, .ifCond .ne 18, 3, 0), (45, .iload 9, 2, 0), (47, .iload 7, 2, 0), (49, .if_icmp .ge 7, 3, 0), (52, .iconst 1, 1, 1), (53, .goto 31, 3, 0), (56, .iconst 0, 1, 0), (57, .goto 27, 3, 0), (60, .aload_n 0, 1, 0), (61, .iload_n 1, 1, 0), (62, .iload_n 2, 1, 0), (63, .iload 9, 2, 0), (65, .invokevirtual 344, 3, 0), (68, .aload_n 0, 1, 0), (69, .iload_n 1, 1, 0), (70, .iload_n 2, 1, 0), (71, .iload 7, 2, 0), (73, .invokevirtual 344, 3, 0), (76, .if_icmp .ge 7, 3, 0), (79, .iconst 1, 1, 1), (80, .goto 4, 3, 0), (83, .iconst 0, 1, 0), (84, .istore 10, 2, 0), (86, .iload 8, 2, 0), (88, .iload 10, 2, 0), (90, .ifCond .eq 23, 3, 0), (93, .iload 5, 2, 0), (95, .aload_n 0, 1, 0), (96, .iload_n 1, 1, 0), (97, .iload_n 2, 1, 0), (98, .iload 9, 2, 0), (100, .invokevirtual 344, 3, 0), (103, .invokestatic 282, 3, 0), (106, .ifCond .eq 7, 3, 0), (109, .iconst 1, 1, 1), (110, .goto 4, 3, 0), (113, .iconst 0, 1, 0), (114, .iadd, 1, 0), (115, .istore 8, 2, 0), (117, .iinc 9 1, 3, 1), (120, .goto (-90), 3, 0), (123, .iload 5, 2, 0), (125, .aload_n 0, 1, 0), (126, .iload_n 1, 1, 0), (127, .iload_n 2, 1, 0), (128, .iload 7, 2, 0), (130, .invokevirtual 344, 3, 0), (133, .invokestatic 282, 3, 0), (136, .ifCond .eq 15, 3, 0), (139, .iload 8, 2, 0), (141, .iload 4, 2, 0), (143, .if_icmp .ne 8, 3, 0), (146, .iload 7, 2, 0), (148, .goto 5, 3, 0), (151, .iload 6, 2, 0), (153, .istore 6, 2, 0), (155, .iinc 7 1, 3, 1), (158, .goto (-145), 3, 0), (161, .iload 6, 2, 0), (163, .ireturn, 1, 0)], [], [(282, 1, 2, 1, f_Md_has), (311, 0, 2, 1, f_Md_entries), (344, 0, 3, 1, f_Md_rowAt), (356, 0, 1, 1, f_Md_chosenBy)], [], [], [(0, [0, 1, 2, 3, 4]), (13, [0, 1, 2, 3, 4, 5, 6, 7]), (30, [0, 1, 2, 3, 4, 5, 6, 7, 8, 9]), (84, [0, 1, 2, 3, 4, 5, 6, 7, 8, 9])], [], 2)
def f_Md_leftAt : mm_F := fun args h => mm_ga [1, 1, 1, 1, 1] args (mm_gd 12 args h (mm_run p_Md_leftAt (mm_fu + 1) 0 args [] h))
set_option maxRecDepth 100000 in
theorem e_Md_leftAt_0 (f : Nat) (t : Nat) (v1 : Int32) (v2 : Int32) (v3 : Int32) (v4 : Int32) (h : mm_H) : mm_run p_Md_leftAt (f + 1) 0 [.ref t, .int v1, .int v2, .int v3, .int v4] [] h =
  mm_ci (f_Md_chosenBy [.ref t, .int v1] h) fun x2 h1 =>
  mm_run p_Md_leftAt f 13 [.ref t, .int v1, .int v2, .int v3, .int v4, .int x2, .int (-1), .int 0] [] h1 := rfl
theorem e_Md_leftAt (t : Nat) (v1 : Int32) (v2 : Int32) (v3 : Int32) (v4 : Int32) (h : mm_H) {fs : List Value} (hb : h t = some (.inr (12, fs))) : f_Md_leftAt [.ref t, .int v1, .int v2, .int v3, .int v4] h =
  mm_ci (f_Md_chosenBy [.ref t, .int v1] h) fun x2 h1 =>
  mm_run p_Md_leftAt mm_fu 13 [.ref t, .int v1, .int v2, .int v3, .int v4, .int x2, .int (-1), .int 0] [] h1 := (mm_ga_is rfl).trans ((mm_gd_is hb).trans (e_Md_leftAt_0 mm_fu t v1 v2 v3 v4 h))
set_option maxRecDepth 100000 in
theorem e_Md_leftAt_13 (f : Nat) (t : Nat) (v1 : Int32) (v2 : Int32) (v3 : Int32) (v4 : Int32) (v5 : Int32) (v6 : Int32) (v7 : Int32) (h : mm_H) : mm_run p_Md_leftAt (f + 1) 13 [.ref t, .int v1, .int v2, .int v3, .int v4, .int v5, .int v6, .int v7] [] h =
  mm_ci (f_Md_entries [.ref t, .int v1, .int v2] h) fun x2 h1 =>
  if v7 < x2 then
    mm_run p_Md_leftAt f 30 [.ref t, .int v1, .int v2, .int v3, .int v4, .int v5, .int v6, .int v7, .int 0, .int 0] [] h1
  else
    some (some (.int v6), h1) := rfl
set_option maxRecDepth 100000 in
theorem e_Md_leftAt_30 (f : Nat) (t : Nat) (v1 : Int32) (v2 : Int32) (v3 : Int32) (v4 : Int32) (v5 : Int32) (v6 : Int32) (v7 : Int32) (v8 : Int32) (v9 : Int32) (h : mm_H) : mm_run p_Md_leftAt (f + 1) 30 [.ref t, .int v1, .int v2, .int v3, .int v4, .int v5, .int v6, .int v7, .int v8, .int v9] [] h =
  mm_ci (f_Md_entries [.ref t, .int v1, .int v2] h) fun x2 h1 =>
  if v9 < x2 then
    if v3 = 0 then
      if v9 < v7 then
        mm_run p_Md_leftAt f 84 [.ref t, .int v1, .int v2, .int v3, .int v4, .int v5, .int v6, .int v7, .int v8, .int v9] [.int 1] h1
      else
        mm_run p_Md_leftAt f 84 [.ref t, .int v1, .int v2, .int v3, .int v4, .int v5, .int v6, .int v7, .int v8, .int v9] [.int 0] h1
    else
      mm_ci (f_Md_rowAt [.ref t, .int v1, .int v2, .int v9] h1) fun x4 h3 =>
      mm_ci (f_Md_rowAt [.ref t, .int v1, .int v2, .int v7] h3) fun x6 h5 =>
      if x4 < x6 then
        mm_run p_Md_leftAt f 84 [.ref t, .int v1, .int v2, .int v3, .int v4, .int v5, .int v6, .int v7, .int v8, .int v9] [.int 1] h5
      else
        mm_run p_Md_leftAt f 84 [.ref t, .int v1, .int v2, .int v3, .int v4, .int v5, .int v6, .int v7, .int v8, .int v9] [.int 0] h5
  else
    mm_ci (f_Md_rowAt [.ref t, .int v1, .int v2, .int v7] h1) fun x8 h7 =>
    mm_ci (f_Md_has [.int v5, .int x8] h7) fun x10 h9 =>
    if x10 = 0 then
      mm_run p_Md_leftAt f 13 [.ref t, .int v1, .int v2, .int v3, .int v4, .int v5, .int v6, .int (v7 + 1)] [] h9
    else
      if v8 = v4 then
        mm_run p_Md_leftAt f 13 [.ref t, .int v1, .int v2, .int v3, .int v4, .int v5, .int v7, .int (v7 + 1)] [] h9
      else
        mm_run p_Md_leftAt f 13 [.ref t, .int v1, .int v2, .int v3, .int v4, .int v5, .int v6, .int (v7 + 1)] [] h9 := rfl
set_option maxRecDepth 100000 in
theorem e_Md_leftAt_84 (f : Nat) (t : Nat) (v1 : Int32) (v2 : Int32) (v3 : Int32) (v4 : Int32) (v5 : Int32) (v6 : Int32) (v7 : Int32) (v8 : Int32) (v9 : Int32) (s0 : Int32) (h : mm_H) : mm_run p_Md_leftAt (f + 1) 84 [.ref t, .int v1, .int v2, .int v3, .int v4, .int v5, .int v6, .int v7, .int v8, .int v9] [.int s0] h =
  if s0 = 0 then
    mm_run p_Md_leftAt f 30 [.ref t, .int v1, .int v2, .int v3, .int v4, .int v5, .int v6, .int v7, .int (v8 + 0), .int (v9 + 1)] [] h
  else
    mm_ci (f_Md_rowAt [.ref t, .int v1, .int v2, .int v9] h) fun x2 h1 =>
    mm_ci (f_Md_has [.int v5, .int x2] h1) fun x4 h3 =>
    if x4 = 0 then
      mm_run p_Md_leftAt f 30 [.ref t, .int v1, .int v2, .int v3, .int v4, .int v5, .int v6, .int v7, .int (v8 + 0), .int (v9 + 1)] [] h3
    else
      mm_run p_Md_leftAt f 30 [.ref t, .int v1, .int v2, .int v3, .int v4, .int v5, .int v6, .int v7, .int (v8 + 1), .int (v9 + 1)] [] h3 := rfl
set_option maxRecDepth 100000 in
theorem i_Md_leftAt (l : Launch) : mm_Imp l yX12_leftAt cX12_leftAt 11 (some .int) 8 f_Md_leftAt := mm_imp l (P := p_Md_leftAt) mm_cls_ok mm_sys_ok (by decide) (mm_Pok_of (fun _ h => absurd h List.not_mem_nil) (List.forall_mem_cons.mpr ⟨v_Md_has l (Or.inl q_1780) (by decide), (List.forall_mem_cons.mpr ⟨v_Md_entries l q_1807 (by decide), (List.forall_mem_cons.mpr ⟨v_Md_rowAt l q_2170 (by decide), (List.forall_mem_cons.mpr ⟨v_Md_chosenBy l q_2237 (by decide), (fun _ h => absurd h List.not_mem_nil)⟩)⟩)⟩)⟩) (fun _ h => absurd h List.not_mem_nil) (fun _ h => absurd h List.not_mem_nil)) (by decide +kernel) rfl (cats := [1, 1, 1, 1, 1]) (fun as h r e => ⟨(mm_ga_inv e).1, (mm_gd_inv (mm_ga_inv e).2).1⟩) rfl (by decide)
theorem v_Md_leftAt (l : Launch) {own : String} {i n0 : Nat} (hl : Cond.methodLink own i yX12_leftAt ∈ mm_tbl) (hn : 9 ≤ n0) : mm_cok l own n0 i (0, 4, 1, f_Md_leftAt) := Or.inr (Or.inr ⟨rfl, yX12_leftAt, cX12_leftAt, 11, (some .int), 8, 12, TX12, 27, i_Md_leftAt l, hn, by decide, by decide +kernel, rfl, fun _ _ _ e => (mm_gd_inv (mm_ga_inv e).2).2, hl, q_2235, q_137, q_179, q_2236⟩)
def p_Md_wayAt : mm_P := ([(0, .aload_n 0, 1, 0), (1, .getfield 123, 3, 0), (4, .iload_n 1, 1, 0), (5, .iconst 5, 1, 5), (6, .iadd, 1, 0), (7, .iaload, 1, 0), (8, .iconst 1, 1, 1), (9, .if_icmp .ne 20, 3, 0), (12, .aload_n 0, 1, 0), (13, .getfield 123, 3, 0), (16, .iload_n 1, 1, 0), (17, .bipush 6, 2, 6), (19, .iadd, 1, 0), (20, .iaload, 1, 0), (21, .iload_n 2, 1, 0), (22, .if_icmp .ne 7, 3, 0), (25, .iconst 1, 1, 1), (26, .goto 4, 3, 0), (29, .iconst 0, 1, 0), (30, .istore_n 3, 1, 0), (31, .iload_n 3, 1, 0), (32, .ifCond .eq 15, 3, 0), (35, .aload_n 0, 1, 0), (36, .getfield 123, 3, 0), (39, .iload_n 1, 1, 0), (40, .bipush 7, 2, 7), (42, .iadd, 1, 0), (43, .iaload, 1, 0), (44, .goto 14, 3, 0), (47, .aload_n 0, 1, 0), (48, .iload_n 1, 1, 0), (49, .iload_n 2, 1, 0), (50, .aload_n 0, 1, 0), (51, .iload_n 1, 1, 0), (52, .invokevirtual 356, 3, 0), (55, .invokevirtual 359, 3, 0), (58, .ireturn, 1, 0)], [(123, 12, 14, 4)], [(356, 0, 1, 1, f_Md_chosenBy), (359, 0, 3, 1, f_Md_wayBy)], [], [], [(0, [0, 1, 2])], [], 2)
def f_Md_wayAt : mm_F := fun args h => mm_ga [1, 1, 1] args (mm_gd 12 args h (mm_run p_Md_wayAt (mm_fu + 1) 0 args [] h))
set_option maxRecDepth 100000 in
theorem e_Md_wayAt_0 (f : Nat) (t : Nat) (v1 : Int32) (v2 : Int32) (h : mm_H) : mm_run p_Md_wayAt (f + 1) 0 [.ref t, .int v1, .int v2] [] h =
  (mm_gr 12 14 h t).bind fun r1 =>
  (mm_li h r1 (v1 + 5)).bind fun x2 =>
  if x2 = 1 then
    (mm_gr 12 14 h t).bind fun r3 =>
    (mm_li h r3 (v1 + 6)).bind fun x4 =>
    if x4 = v2 then
      (mm_gr 12 14 h t).bind fun r5 =>
      (mm_li h r5 (v1 + 7)).bind fun x6 =>
      some (some (.int x6), h)
    else
      mm_ci (f_Md_chosenBy [.ref t, .int v1] h) fun x8 h7 =>
      mm_ci (f_Md_wayBy [.ref t, .int v1, .int v2, .int x8] h7) fun x10 h9 =>
      some (some (.int x10), h9)
  else
    mm_ci (f_Md_chosenBy [.ref t, .int v1] h) fun x12 h11 =>
    mm_ci (f_Md_wayBy [.ref t, .int v1, .int v2, .int x12] h11) fun x14 h13 =>
    some (some (.int x14), h13) := rfl
theorem e_Md_wayAt (t : Nat) (v1 : Int32) (v2 : Int32) (h : mm_H) {fs : List Value} (hb : h t = some (.inr (12, fs))) : f_Md_wayAt [.ref t, .int v1, .int v2] h =
  (mm_gr 12 14 h t).bind fun r1 =>
  (mm_li h r1 (v1 + 5)).bind fun x2 =>
  if x2 = 1 then
    (mm_gr 12 14 h t).bind fun r3 =>
    (mm_li h r3 (v1 + 6)).bind fun x4 =>
    if x4 = v2 then
      (mm_gr 12 14 h t).bind fun r5 =>
      (mm_li h r5 (v1 + 7)).bind fun x6 =>
      some (some (.int x6), h)
    else
      mm_ci (f_Md_chosenBy [.ref t, .int v1] h) fun x8 h7 =>
      mm_ci (f_Md_wayBy [.ref t, .int v1, .int v2, .int x8] h7) fun x10 h9 =>
      some (some (.int x10), h9)
  else
    mm_ci (f_Md_chosenBy [.ref t, .int v1] h) fun x12 h11 =>
    mm_ci (f_Md_wayBy [.ref t, .int v1, .int v2, .int x12] h11) fun x14 h13 =>
    some (some (.int x14), h13) := (mm_ga_is rfl).trans ((mm_gd_is hb).trans (e_Md_wayAt_0 mm_fu t v1 v2 h))
set_option maxRecDepth 100000 in
theorem i_Md_wayAt (l : Launch) : mm_Imp l yX12_wayAt cX12_wayAt 4 (some .int) 8 f_Md_wayAt := mm_imp l (P := p_Md_wayAt) mm_cls_ok mm_sys_ok (by decide) (mm_Pok_of (List.forall_mem_cons.mpr ⟨k_X12_123, (fun _ h => absurd h List.not_mem_nil)⟩) (List.forall_mem_cons.mpr ⟨v_Md_chosenBy l q_2237 (by decide), (List.forall_mem_cons.mpr ⟨v_Md_wayBy l q_2198 (by decide), (fun _ h => absurd h List.not_mem_nil)⟩)⟩) (fun _ h => absurd h List.not_mem_nil) (fun _ h => absurd h List.not_mem_nil)) (by decide +kernel) rfl (cats := [1, 1, 1]) (fun as h r e => ⟨(mm_ga_inv e).1, (mm_gd_inv (mm_ga_inv e).2).1⟩) rfl (by decide)
theorem v_Md_wayAt (l : Launch) {own : String} {i n0 : Nat} (hl : Cond.methodLink own i yX12_wayAt ∈ mm_tbl) (hn : 9 ≤ n0) : mm_cok l own n0 i (0, 2, 1, f_Md_wayAt) := Or.inr (Or.inr ⟨rfl, yX12_wayAt, cX12_wayAt, 4, (some .int), 8, 12, TX12, 27, i_Md_wayAt l, hn, by decide, by decide +kernel, rfl, fun _ _ _ e => (mm_gd_inv (mm_ga_inv e).2).2, hl, q_2404, q_153, q_179, q_2405⟩)
def p_Md_stands : mm_P := ([(0, .aload_n 0, 1, 0), (1, .getfield 123, 3, 0), (4, .iload_n 1, 1, 0), (5, .bipush 6, 2, 6), (7, .iadd, 1, 0), (8, .iaload, 1, 0), (9, .istore_n 2, 1, 0), (10, .aload_n 0, 1, 0), (11, .aload_n 0, 1, 0), (12, .iload_n 1, 1, 0), (13, .iload_n 2, 1, 0), (14, .invokevirtual 305, 3, 0), (17, .iload_n 1, 1, 0), (18, .sipush 483, 3, 483), (21, .iadd, 1, 0), (22, .bipush 31, 2, 31), (24, .invokevirtual 362, 3, 0), (27, .return_, 1, 0)], [(123, 12, 14, 4)], [(305, 0, 2, 1, f_Md_startOf), (362, 0, 3, 0, f_Md_copies)], [], [], [(0, [0, 1])], [], 0)
def f_Md_stands : mm_F := fun args h => mm_ga [1, 1] args (mm_gd 12 args h (mm_run p_Md_stands (mm_fu + 1) 0 args [] h))
set_option maxRecDepth 100000 in
theorem e_Md_stands_0 (f : Nat) (t : Nat) (v1 : Int32) (h : mm_H) : mm_run p_Md_stands (f + 1) 0 [.ref t, .int v1] [] h =
  (mm_gr 12 14 h t).bind fun r1 =>
  (mm_li h r1 (v1 + 6)).bind fun x2 =>
  mm_ci (f_Md_startOf [.ref t, .int v1, .int x2] h) fun x4 h3 =>
  mm_cv (f_Md_copies [.ref t, .int x4, .int (v1 + 483), .int 31] h3) fun h5 =>
  some (none, h5) := rfl
theorem e_Md_stands (t : Nat) (v1 : Int32) (h : mm_H) {fs : List Value} (hb : h t = some (.inr (12, fs))) : f_Md_stands [.ref t, .int v1] h =
  (mm_gr 12 14 h t).bind fun r1 =>
  (mm_li h r1 (v1 + 6)).bind fun x2 =>
  mm_ci (f_Md_startOf [.ref t, .int v1, .int x2] h) fun x4 h3 =>
  mm_cv (f_Md_copies [.ref t, .int x4, .int (v1 + 483), .int 31] h3) fun h5 =>
  some (none, h5) := (mm_ga_is rfl).trans ((mm_gd_is hb).trans (e_Md_stands_0 mm_fu t v1 h))
set_option maxRecDepth 100000 in
theorem i_Md_stands (l : Launch) : mm_Imp l yX12_stands cX12_stands 3 none 2 f_Md_stands := mm_imp l (P := p_Md_stands) mm_cls_ok mm_sys_ok (by decide) (mm_Pok_of (List.forall_mem_cons.mpr ⟨k_X12_123, (fun _ h => absurd h List.not_mem_nil)⟩) (List.forall_mem_cons.mpr ⟨v_Md_startOf l q_1811 (by decide), (List.forall_mem_cons.mpr ⟨v_Md_copies l q_2059 (by decide), (fun _ h => absurd h List.not_mem_nil)⟩)⟩) (fun _ h => absurd h List.not_mem_nil) (fun _ h => absurd h List.not_mem_nil)) (by decide +kernel) rfl (cats := [1, 1]) (fun as h r e => ⟨(mm_ga_inv e).1, (mm_gd_inv (mm_ga_inv e).2).1⟩) rfl (by decide)
theorem v_Md_stands (l : Launch) {own : String} {i n0 : Nat} (hl : Cond.methodLink own i yX12_stands ∈ mm_tbl) (hn : 3 ≤ n0) : mm_cok l own n0 i (0, 1, 0, f_Md_stands) := Or.inr (Or.inr ⟨rfl, yX12_stands, cX12_stands, 3, none, 2, 12, TX12, 27, i_Md_stands l, hn, by decide, by decide +kernel, rfl, fun _ _ _ e => (mm_gd_inv (mm_ga_inv e).2).2, hl, q_2212, q_133, q_179, q_2213⟩)
def p_Md_comes : mm_P := ([(0, .iload_n 2, 1, 0), (1, .istore_n 3, 1, 0), (2, .aload_n 0, 1, 0), (3, .getfield 123, 3, 0), (6, .iload_n 1, 1, 0), (7, .iconst 1, 1, 1), (8, .iadd, 1, 0), (9, .iaload, 1, 0), (10, .istore 4, 2, 0), (12, .iload_n 3, 1, 0), (13, .aload_n 0, 1, 0), (14, .invokevirtual 268, 3, 0), (17, .if_icmp .ge 20, 3, 0), (20, .aload_n 0, 1, 0), (21, .iload_n 1, 1, 0), (22, .iload_n 3, 1, 0), (23, .iload 4, 2, 0), (25, .invokevirtual 347, 3, 0), (28, .ifCond .ne 9, 3, 0), (31, .iinc 3 1, 3, 1), (34, .goto (-22), 3, 0), (37, .aload_n 0, 1, 0), (38, .getfield 123, 3, 0), (41, .iload_n 1, 1, 0), (42, .bipush 8, 2, 8), (44, .iadd, 1, 0), (45, .iconst 0, 1, 0), (46, .iastore, 1, 0), (47, .aload_n 0, 1, 0), (48, .getfield 123, 3, 0), (51, .iload_n 1, 1, 0), (52, .bipush 9, 2, 9), (54, .iadd, 1, 0), (55, .iconst 0, 1, 0), (56, .iastore, 1, 0), (57, .aload_n 0, 1, 0), (58, .getfield 123, 3, 0), (61, .iload_n 1, 1, 0), (62, .bipush 6, 2, 6), (64, .iadd, 1, 0), (65, .iload_n 3, 1, 0), (66, .aload_n 0, 1, 0), (67, .invokevirtual 268, 3, 0), (70, .if_icmp .ne 7, 3, 0), (73, .iconst 4, 1, 4), (74, .goto 4, 3, 0), (77, .iload_n 3, 1, 0), (78, .iastore, 1, 0), (79, .aload_n 0, 1, 0), (80, .getfield 123, 3, 0), (83, .iload_n 1, 1, 0), (84, .bipush 7, 2, 7), (86, .iadd, 1, 0), (87, .iconst (-1), 1, (-1)), (88, .iastore, 1, 0), (89, .iload_n 3, 1, 0), (90, .aload_n 0, 1, 0), (91, .invokevirtual 268, 3, 0), (94, .if_icmp .ge 64, 3, 0), (97, .aload_n 0, 1, 0), (98, .iload_n 1, 1, 0), (99, .iload_n 3, 1, 0), (100, .iload 4, 2, 0), (102, .invokevirtual 359, 3, 0), (105, .istore 5, 2, 0), (107, .aload_n 0, 1, 0), (108, .getfield 123, 3, 0), (111, .iload_n 1, 1, 0), (112, .bipush 7, 2, 7), (114, .iadd, 1, 0), (115, .iload 5, 2, 0), (117, .iastore, 1, 0), (118, .aload_n 0, 1, 0), (119, .getfield 123, 3, 0), (122, .iload_n 1, 1, 0), (123, .iconst 3, 1, 3), (124, .iadd, 1, 0), (125, .dup2, 1, 0), (126, .iaload, 1, 0), (127, .iload 5, 2, 0), (129, .ifCond .ne 14, 3, 0), (132, .aload_n 0, 1, 0), (133, .iload_n 1, 1, 0), (134, .iload_n 3, 1, 0), (135, .iload 4, 2, 0), (137, .invokevirtual 350, 3, 0), (140, .goto 11, 3, 0), (143, .aload_n 0, 1, 0), (144, .iload_n 1, 1, 0), (145, .iload_n 3, 1, 0), (146, .iload 4, 2, 0), (148, .invokevirtual 353, 3, 0), (151, .iadd, 1, 0), (152, .iastore, 1, 0), (153, .aload_n 0, 1, 0), (154, .iload_n 1, 1, 0), (155, .invokevirtual 365, 3, 0), (158, .return_, 1, 0)], [(123, 12, 14, 4)], [(268, 0, 0, 1, f_Md_indexes), (347, 0, 3, 1, f_Md_leftMany), (350, 0, 3, 1, f_Md_passCost), (353, 0, 3, 1, f_Md_probeCost), (359, 0, 3, 1, f_Md_wayBy), (365, 0, 1, 0, f_Md_stands)], [], [], [(0, [0, 1, 2]), (12, [0, 1, 3, 4]), (78, [0, 1, 3, 4])], [], 0)
def f_Md_comes : mm_F := fun args h => mm_ga [1, 1, 1] args (mm_gd 12 args h (mm_run p_Md_comes (mm_fu + 1) 0 args [] h))
set_option maxRecDepth 100000 in
theorem e_Md_comes_0 (f : Nat) (t : Nat) (v1 : Int32) (v2 : Int32) (h : mm_H) : mm_run p_Md_comes (f + 1) 0 [.ref t, .int v1, .int v2] [] h =
  (mm_gr 12 14 h t).bind fun r1 =>
  (mm_li h r1 (v1 + 1)).bind fun x2 =>
  mm_run p_Md_comes f 12 [.ref t, .int v1, .int v2, .int x2] [] h := rfl
theorem e_Md_comes (t : Nat) (v1 : Int32) (v2 : Int32) (h : mm_H) {fs : List Value} (hb : h t = some (.inr (12, fs))) : f_Md_comes [.ref t, .int v1, .int v2] h =
  (mm_gr 12 14 h t).bind fun r1 =>
  (mm_li h r1 (v1 + 1)).bind fun x2 =>
  mm_run p_Md_comes mm_fu 12 [.ref t, .int v1, .int v2, .int x2] [] h := (mm_ga_is rfl).trans ((mm_gd_is hb).trans (e_Md_comes_0 mm_fu t v1 v2 h))
set_option maxRecDepth 100000 in
theorem e_Md_comes_12 (f : Nat) (t : Nat) (v1 : Int32) (v3 : Int32) (v4 : Int32) (h : mm_H) : mm_run p_Md_comes (f + 1) 12 [.ref t, .int v1, .int v3, .int v4] [] h =
  mm_ci (f_Md_indexes [.ref t] h) fun x2 h1 =>
  if v3 < x2 then
    mm_ci (f_Md_leftMany [.ref t, .int v1, .int v3, .int v4] h1) fun x4 h3 =>
    if x4 = 0 then
      mm_run p_Md_comes f 12 [.ref t, .int v1, .int (v3 + 1), .int v4] [] h3
    else
      (mm_gr 12 14 h3 t).bind fun r5 =>
      (mm_si h3 r5 (v1 + 8) 0).bind fun h6 =>
      (mm_gr 12 14 h6 t).bind fun r7 =>
      (mm_si h6 r7 (v1 + 9) 0).bind fun h8 =>
      (mm_gr 12 14 h8 t).bind fun r9 =>
      mm_ci (f_Md_indexes [.ref t] h8) fun x11 h10 =>
      if v3 = x11 then
        mm_run p_Md_comes f 78 [.ref t, .int v1, .int v3, .int v4] [.int 4, .int (v1 + 6), .ref r9] h10
      else
        mm_run p_Md_comes f 78 [.ref t, .int v1, .int v3, .int v4] [.int v3, .int (v1 + 6), .ref r9] h10
  else
    (mm_gr 12 14 h1 t).bind fun r12 =>
    (mm_si h1 r12 (v1 + 8) 0).bind fun h13 =>
    (mm_gr 12 14 h13 t).bind fun r14 =>
    (mm_si h13 r14 (v1 + 9) 0).bind fun h15 =>
    (mm_gr 12 14 h15 t).bind fun r16 =>
    mm_ci (f_Md_indexes [.ref t] h15) fun x18 h17 =>
    if v3 = x18 then
      mm_run p_Md_comes f 78 [.ref t, .int v1, .int v3, .int v4] [.int 4, .int (v1 + 6), .ref r16] h17
    else
      mm_run p_Md_comes f 78 [.ref t, .int v1, .int v3, .int v4] [.int v3, .int (v1 + 6), .ref r16] h17 := rfl
set_option maxRecDepth 100000 in
theorem e_Md_comes_78 (f : Nat) (t : Nat) (v1 : Int32) (v3 : Int32) (v4 : Int32) (s0 : Int32) (s1 : Int32) (s2 : Nat) (h : mm_H) : mm_run p_Md_comes (f + 1) 78 [.ref t, .int v1, .int v3, .int v4] [.int s0, .int s1, .ref s2] h =
  (mm_si h s2 s1 s0).bind fun h1 =>
  (mm_gr 12 14 h1 t).bind fun r2 =>
  (mm_si h1 r2 (v1 + 7) (-1)).bind fun h3 =>
  mm_ci (f_Md_indexes [.ref t] h3) fun x5 h4 =>
  if v3 < x5 then
    mm_ci (f_Md_wayBy [.ref t, .int v1, .int v3, .int v4] h4) fun x7 h6 =>
    (mm_gr 12 14 h6 t).bind fun r8 =>
    (mm_si h6 r8 (v1 + 7) x7).bind fun h9 =>
    (mm_gr 12 14 h9 t).bind fun r10 =>
    (mm_li h9 r10 (v1 + 3)).bind fun x11 =>
    if x7 = 0 then
      mm_ci (f_Md_passCost [.ref t, .int v1, .int v3, .int v4] h9) fun x13 h12 =>
      (mm_si h12 r10 (v1 + 3) (x11 + x13)).bind fun h14 =>
      mm_cv (f_Md_stands [.ref t, .int v1] h14) fun h15 =>
      some (none, h15)
    else
      mm_ci (f_Md_probeCost [.ref t, .int v1, .int v3, .int v4] h9) fun x17 h16 =>
      (mm_si h16 r10 (v1 + 3) (x11 + x17)).bind fun h18 =>
      mm_cv (f_Md_stands [.ref t, .int v1] h18) fun h19 =>
      some (none, h19)
  else
    some (none, h4) := rfl
set_option maxRecDepth 100000 in
theorem i_Md_comes (l : Launch) : mm_Imp l yX12_comes cX12_comes 6 none 7 f_Md_comes := mm_imp l (P := p_Md_comes) mm_cls_ok mm_sys_ok (by decide) (mm_Pok_of (List.forall_mem_cons.mpr ⟨k_X12_123, (fun _ h => absurd h List.not_mem_nil)⟩) (List.forall_mem_cons.mpr ⟨v_Md_indexes l q_1741 (by decide), (List.forall_mem_cons.mpr ⟨v_Md_leftMany l q_2194 (by decide), (List.forall_mem_cons.mpr ⟨v_Md_passCost l q_2202 (by decide), (List.forall_mem_cons.mpr ⟨v_Md_probeCost l q_2206 (by decide), (List.forall_mem_cons.mpr ⟨v_Md_wayBy l q_2198 (by decide), (List.forall_mem_cons.mpr ⟨v_Md_stands l q_2210 (by decide), (fun _ h => absurd h List.not_mem_nil)⟩)⟩)⟩)⟩)⟩)⟩) (fun _ h => absurd h List.not_mem_nil) (fun _ h => absurd h List.not_mem_nil)) (by decide +kernel) rfl (cats := [1, 1, 1]) (fun as h r e => ⟨(mm_ga_inv e).1, (mm_gd_inv (mm_ga_inv e).2).1⟩) rfl (by decide)
theorem v_Md_comes (l : Launch) {own : String} {i n0 : Nat} (hl : Cond.methodLink own i yX12_comes ∈ mm_tbl) (hn : 8 ≤ n0) : mm_cok l own n0 i (0, 2, 0, f_Md_comes) := Or.inr (Or.inr ⟨rfl, yX12_comes, cX12_comes, 6, none, 7, 12, TX12, 27, i_Md_comes l, hn, by decide, by decide +kernel, rfl, fun _ _ _ e => (mm_gd_inv (mm_ga_inv e).2).2, hl, q_2192, q_128, q_179, q_2193⟩)
def p_Md_hinders : mm_P := ([(0, .aload_n 0, 1, 0), (1, .getfield 123, 3, 0), (4, .iload_n 1, 1, 0), (5, .bipush 55, 2, 55), (7, .iadd, 1, 0), (8, .iload_n 3, 1, 0), (9, .iadd, 1, 0), (10, .iaload, 1, 0), (11, .istore 4, 2, 0), (13, .aload_n 0, 1, 0), (14, .getfield 123, 3, 0), (17, .iload_n 1, 1, 0), (18, .bipush 43, 2, 43), (20, .iadd, 1, 0), (21, .iload_n 3, 1, 0), (22, .iadd, 1, 0), (23, .iaload, 1, 0), (24, .ifCond .ne 12, 3, 0), (27, .iload 4, 2, 0), (29, .ifCond .lt 7, 3, 0), (32, .iconst 1, 1, 1), (33, .goto 4, 3, 0), (36, .iconst 0, 1, 0), (37, .istore 5, 2, 0), (39, .iload 5, 2, 0), (41, .ifCond .eq 39, 3, 0), (44, .aload_n 0, 1, 0), (45, .iload_n 1, 1, 0), (46, .iload_n 2, 1, 0), (47, .iconst 0, 1, 0), (48, .iload 4, 2, 0), (50, .invokevirtual 289, 3, 0), (53, .ifCond .eq 27, 3, 0), (56, .aload_n 0, 1, 0), (57, .iload_n 1, 1, 0), (58, .aload_n 0, 1, 0), (59, .iload_n 1, 1, 0), (60, .invokevirtual 279, 3, 0), (63, .iload_n 2, 1, 0), (64, .iconst (-1), 1, (-1)), (65, .ixor, 1, 0), (66, .iand, 1, 0), (67, .iconst 0, 1, 0), (68, .iload 4, 2, 0), (70, .invokevirtual 289, 3, 0), (73, .ifCond .ne 7, 3, 0), (76, .iconst 1, 1, 1), (77, .goto 4, 3, 0), (80, .iconst 0, 1, 0), (81, .ireturn, 1, 0)], [(123, 12, 14, 4)], [(279, 0, 1, 1, f_Md_visible), (289, 0, 4, 1, f_Md_having)], [], [], [(0, [0, 1, 2, 3])], [], 1)
def f_Md_hinders : mm_F := fun args h => mm_ga [1, 1, 1, 1] args (mm_gd 12 args h (mm_run p_Md_hinders (mm_fu + 1) 0 args [] h))
set_option maxRecDepth 100000 in
theorem e_Md_hinders_0 (f : Nat) (t : Nat) (v1 : Int32) (v2 : Int32) (v3 : Int32) (h : mm_H) : mm_run p_Md_hinders (f + 1) 0 [.ref t, .int v1, .int v2, .int v3] [] h =
  (mm_gr 12 14 h t).bind fun r1 =>
  (mm_li h r1 ((v1 + 55) + v3)).bind fun x2 =>
  (mm_gr 12 14 h t).bind fun r3 =>
  (mm_li h r3 ((v1 + 43) + v3)).bind fun x4 =>
  if x4 = 0 then
    if x2 < 0 then
      some (some (.int 0), h)
    else
      mm_ci (f_Md_having [.ref t, .int v1, .int v2, .int 0, .int x2] h) fun x6 h5 =>
      if x6 = 0 then
        some (some (.int 0), h5)
      else
        mm_ci (f_Md_visible [.ref t, .int v1] h5) fun x8 h7 =>
        mm_ci (f_Md_having [.ref t, .int v1, .int (x8 &&& (v2 ^^^ (-1))), .int 0, .int x2] h7) fun x10 h9 =>
        if x10 = 0 then
          some (some (.int 1), h9)
        else
          some (some (.int 0), h9)
  else
    some (some (.int 0), h) := rfl
theorem e_Md_hinders (t : Nat) (v1 : Int32) (v2 : Int32) (v3 : Int32) (h : mm_H) {fs : List Value} (hb : h t = some (.inr (12, fs))) : f_Md_hinders [.ref t, .int v1, .int v2, .int v3] h =
  (mm_gr 12 14 h t).bind fun r1 =>
  (mm_li h r1 ((v1 + 55) + v3)).bind fun x2 =>
  (mm_gr 12 14 h t).bind fun r3 =>
  (mm_li h r3 ((v1 + 43) + v3)).bind fun x4 =>
  if x4 = 0 then
    if x2 < 0 then
      some (some (.int 0), h)
    else
      mm_ci (f_Md_having [.ref t, .int v1, .int v2, .int 0, .int x2] h) fun x6 h5 =>
      if x6 = 0 then
        some (some (.int 0), h5)
      else
        mm_ci (f_Md_visible [.ref t, .int v1] h5) fun x8 h7 =>
        mm_ci (f_Md_having [.ref t, .int v1, .int (x8 &&& (v2 ^^^ (-1))), .int 0, .int x2] h7) fun x10 h9 =>
        if x10 = 0 then
          some (some (.int 1), h9)
        else
          some (some (.int 0), h9)
  else
    some (some (.int 0), h) := (mm_ga_is rfl).trans ((mm_gd_is hb).trans (e_Md_hinders_0 mm_fu t v1 v2 v3 h))
set_option maxRecDepth 100000 in
theorem i_Md_hinders (l : Launch) : mm_Imp l yX12_hinders cX12_hinders 6 (some .boolean) 4 f_Md_hinders := mm_imp l (P := p_Md_hinders) mm_cls_ok mm_sys_ok (by decide) (mm_Pok_of (List.forall_mem_cons.mpr ⟨k_X12_123, (fun _ h => absurd h List.not_mem_nil)⟩) (List.forall_mem_cons.mpr ⟨v_Md_visible l q_1772 (by decide), (List.forall_mem_cons.mpr ⟨v_Md_having l q_1776 (by decide), (fun _ h => absurd h List.not_mem_nil)⟩)⟩) (fun _ h => absurd h List.not_mem_nil) (fun _ h => absurd h List.not_mem_nil)) (by decide +kernel) rfl (cats := [1, 1, 1, 1]) (fun as h r e => ⟨(mm_ga_inv e).1, (mm_gd_inv (mm_ga_inv e).2).1⟩) rfl (by decide)
theorem v_Md_hinders (l : Launch) {own : String} {i n0 : Nat} (hl : Cond.methodLink own i yX12_hinders ∈ mm_tbl) (hn : 5 ≤ n0) : mm_cok l own n0 i (0, 3, 1, f_Md_hinders) := Or.inr (Or.inr ⟨rfl, yX12_hinders, cX12_hinders, 6, (some .boolean), 4, 12, TX12, 27, i_Md_hinders l, hn, by decide, by decide +kernel, rfl, fun _ _ _ e => (mm_gd_inv (mm_ga_inv e).2).2, hl, q_2188, q_127, q_179, q_2189⟩)
def p_Md_hindering : mm_P := ([(0, .iconst 0, 1, 0), (1, .istore_n 3, 1, 0), (2, .iconst 0, 1, 0), (3, .istore 4, 2, 0), (5, .iload 4, 2, 0), (7, .aload_n 0, 1, 0), (8, .getfield 123, 3, 0), (11, .iload_n 1, 1, 0), (12, .iconst 4, 1, 4), (13, .iadd, 1, 0), (14, .iaload, 1, 0), (15, .if_icmp .ge 31, 3, 0), (18, .iload_n 3, 1, 0), (19, .aload_n 0, 1, 0), (20, .iload_n 1, 1, 0), (21, .iload_n 2, 1, 0), (22, .iload 4, 2, 0), (24, .invokevirtual 368, 3, 0), (27, .ifCond .eq 10, 3, 0), (30, .iconst 1, 1, 1), (31, .iload 4, 2, 0), (33, .ishl, 1, 0), (34, .goto 4, 3, 0), (37, .iconst 0, 1, 0), (38, .ior, 1, 0), (39, .istore_n 3, 1, 0), (40, .iinc 4 1, 3, 1), (43, .goto (-38), 3, 0), (46, .iload_n 3, 1, 0), (47, .ireturn, 1, 0)], [(123, 12, 14, 4)], [(368, 0, 3, 1, f_Md_hinders)], [], [], [(0, [0, 1, 2]), (5, [0, 1, 2, 3, 4])], [], 2)
def f_Md_hindering : mm_F := fun args h => mm_ga [1, 1, 1] args (mm_gd 12 args h (mm_run p_Md_hindering (mm_fu + 1) 0 args [] h))
set_option maxRecDepth 100000 in
theorem e_Md_hindering_0 (f : Nat) (t : Nat) (v1 : Int32) (v2 : Int32) (h : mm_H) : mm_run p_Md_hindering (f + 1) 0 [.ref t, .int v1, .int v2] [] h =
  mm_run p_Md_hindering f 5 [.ref t, .int v1, .int v2, .int 0, .int 0] [] h := rfl
theorem e_Md_hindering (t : Nat) (v1 : Int32) (v2 : Int32) (h : mm_H) {fs : List Value} (hb : h t = some (.inr (12, fs))) : f_Md_hindering [.ref t, .int v1, .int v2] h =
  mm_run p_Md_hindering mm_fu 5 [.ref t, .int v1, .int v2, .int 0, .int 0] [] h := (mm_ga_is rfl).trans ((mm_gd_is hb).trans (e_Md_hindering_0 mm_fu t v1 v2 h))
set_option maxRecDepth 100000 in
theorem e_Md_hindering_5 (f : Nat) (t : Nat) (v1 : Int32) (v2 : Int32) (v3 : Int32) (v4 : Int32) (h : mm_H) : mm_run p_Md_hindering (f + 1) 5 [.ref t, .int v1, .int v2, .int v3, .int v4] [] h =
  (mm_gr 12 14 h t).bind fun r1 =>
  (mm_li h r1 (v1 + 4)).bind fun x2 =>
  if v4 < x2 then
    mm_ci (f_Md_hinders [.ref t, .int v1, .int v2, .int v4] h) fun x4 h3 =>
    if x4 = 0 then
      mm_run p_Md_hindering f 5 [.ref t, .int v1, .int v2, .int (v3 ||| 0), .int (v4 + 1)] [] h3
    else
      mm_run p_Md_hindering f 5 [.ref t, .int v1, .int v2, .int (v3 ||| (1 <<< (v4 &&& 31))), .int (v4 + 1)] [] h3
  else
    some (some (.int v3), h) := rfl
set_option maxRecDepth 100000 in
theorem i_Md_hindering (l : Launch) : mm_Imp l yX12_hindering cX12_hindering 5 (some .int) 5 f_Md_hindering := mm_imp l (P := p_Md_hindering) mm_cls_ok mm_sys_ok (by decide) (mm_Pok_of (List.forall_mem_cons.mpr ⟨k_X12_123, (fun _ h => absurd h List.not_mem_nil)⟩) (List.forall_mem_cons.mpr ⟨v_Md_hinders l q_2186 (by decide), (fun _ h => absurd h List.not_mem_nil)⟩) (fun _ h => absurd h List.not_mem_nil) (fun _ h => absurd h List.not_mem_nil)) (by decide +kernel) rfl (cats := [1, 1, 1]) (fun as h r e => ⟨(mm_ga_inv e).1, (mm_gd_inv (mm_ga_inv e).2).1⟩) rfl (by decide)
theorem v_Md_hindering (l : Launch) {own : String} {i n0 : Nat} (hl : Cond.methodLink own i yX12_hindering ∈ mm_tbl) (hn : 6 ≤ n0) : mm_cok l own n0 i (0, 2, 1, f_Md_hindering) := Or.inr (Or.inr ⟨rfl, yX12_hindering, cX12_hindering, 5, (some .int), 5, 12, TX12, 27, i_Md_hindering l, hn, by decide, by decide +kernel, rfl, fun _ _ _ e => (mm_gd_inv (mm_ga_inv e).2).2, hl, q_2184, q_126, q_179, q_2185⟩)
def p_Md_letsGo : mm_P := ([(0, .aload_n 0, 1, 0), (1, .getfield 123, 3, 0), (4, .iload_n 1, 1, 0), (5, .bipush 55, 2, 55), (7, .iadd, 1, 0), (8, .iload_n 2, 1, 0), (9, .iadd, 1, 0), (10, .aload_n 0, 1, 0), (11, .getfield 123, 3, 0), (14, .iload_n 1, 1, 0), (15, .bipush 43, 2, 43), (17, .iadd, 1, 0), (18, .iload_n 2, 1, 0), (19, .iadd, 1, 0), (20, .iaload, 1, 0), (21, .iconst 1, 1, 1), (22, .if_icmp .ne 7, 3, 0), (25, .iconst (-1), 1, (-1)), (26, .goto 5, 3, 0), (29, .bipush (-2), 2, (-2)), (31, .iastore, 1, 0), (32, .return_, 1, 0)], [(123, 12, 14, 4)], [], [], [], [(0, [0, 1, 2])], [], 0)
def f_Md_letsGo : mm_F := fun args h => mm_ga [1, 1, 1] args (mm_gd 12 args h (mm_run p_Md_letsGo (mm_fu + 1) 0 args [] h))
set_option maxRecDepth 100000 in
theorem e_Md_letsGo_0 (f : Nat) (t : Nat) (v1 : Int32) (v2 : Int32) (h : mm_H) : mm_run p_Md_letsGo (f + 1) 0 [.ref t, .int v1, .int v2] [] h =
  (mm_gr 12 14 h t).bind fun r1 =>
  (mm_gr 12 14 h t).bind fun r2 =>
  (mm_li h r2 ((v1 + 43) + v2)).bind fun x3 =>
  if x3 = 1 then
    (mm_si h r1 ((v1 + 55) + v2) (-1)).bind fun h4 =>
    some (none, h4)
  else
    (mm_si h r1 ((v1 + 55) + v2) (-2)).bind fun h5 =>
    some (none, h5) := rfl
theorem e_Md_letsGo (t : Nat) (v1 : Int32) (v2 : Int32) (h : mm_H) {fs : List Value} (hb : h t = some (.inr (12, fs))) : f_Md_letsGo [.ref t, .int v1, .int v2] h =
  (mm_gr 12 14 h t).bind fun r1 =>
  (mm_gr 12 14 h t).bind fun r2 =>
  (mm_li h r2 ((v1 + 43) + v2)).bind fun x3 =>
  if x3 = 1 then
    (mm_si h r1 ((v1 + 55) + v2) (-1)).bind fun h4 =>
    some (none, h4)
  else
    (mm_si h r1 ((v1 + 55) + v2) (-2)).bind fun h5 =>
    some (none, h5) := (mm_ga_is rfl).trans ((mm_gd_is hb).trans (e_Md_letsGo_0 mm_fu t v1 v2 h))
set_option maxRecDepth 100000 in
theorem i_Md_letsGo (l : Launch) : mm_Imp l yX12_letsGo cX12_letsGo 3 none 1 f_Md_letsGo := mm_imp l (P := p_Md_letsGo) mm_cls_ok mm_sys_ok (by decide) (mm_Pok_of (List.forall_mem_cons.mpr ⟨k_X12_123, (fun _ h => absurd h List.not_mem_nil)⟩) (fun _ h => absurd h List.not_mem_nil) (fun _ h => absurd h List.not_mem_nil) (fun _ h => absurd h List.not_mem_nil)) (by decide +kernel) rfl (cats := [1, 1, 1]) (fun as h r e => ⟨(mm_ga_inv e).1, (mm_gd_inv (mm_ga_inv e).2).1⟩) rfl (by decide)
theorem v_Md_letsGo (l : Launch) {own : String} {i n0 : Nat} (hl : Cond.methodLink own i yX12_letsGo ∈ mm_tbl) (hn : 2 ≤ n0) : mm_cok l own n0 i (0, 2, 0, f_Md_letsGo) := Or.inr (Or.inr ⟨rfl, yX12_letsGo, cX12_letsGo, 3, none, 1, 12, TX12, 27, i_Md_letsGo l, hn, by decide, by decide +kernel, rfl, fun _ _ _ e => (mm_gd_inv (mm_ga_inv e).2).2, hl, q_2116, q_114, q_179, q_2117⟩)
def p_Md_begun : mm_P := ([(0, .aload_n 0, 1, 0), (1, .getfield 123, 3, 0), (4, .iload_n 1, 1, 0), (5, .iconst 5, 1, 5), (6, .iadd, 1, 0), (7, .iaload, 1, 0), (8, .iconst 1, 1, 1), (9, .if_icmp .eq 16, 3, 0), (12, .iload_n 2, 1, 0), (13, .ifCond .eq 12, 3, 0), (16, .aload_n 0, 1, 0), (17, .iload_n 1, 1, 0), (18, .iload_n 2, 1, 0), (19, .invokevirtual 371, 3, 0), (22, .ifCond .eq 5, 3, 0), (25, .iconst (-1), 1, (-1)), (26, .ireturn, 1, 0), (27, .aload_n 0, 1, 0), (28, .getfield 123, 3, 0), (31, .iload_n 1, 1, 0), (32, .iconst 5, 1, 5), (33, .iadd, 1, 0), (34, .iconst 1, 1, 1), (35, .iastore, 1, 0), (36, .aload_n 0, 1, 0), (37, .getfield 123, 3, 0), (40, .iload_n 1, 1, 0), (41, .iconst 1, 1, 1), (42, .iadd, 1, 0), (43, .iload_n 2, 1, 0), (44, .iastore, 1, 0), (45, .aload_n 0, 1, 0), (46, .getfield 123, 3, 0), (49, .iload_n 1, 1, 0), (50, .bipush 10, 2, 10), (52, .iadd, 1, 0), (53, .iconst 0, 1, 0), (54, .iastore, 1, 0), (55, .aload_n 0, 1, 0), (56, .getfield 123, 3, 0), (59, .iload_n 1, 1, 0), (60, .bipush 11, 2, 11), (62, .iadd, 1, 0), (63, .iconst 0, 1, 0), (64, .iastore, 1, 0), (65, .aload_n 0, 1, 0), (66, .getfield 123, 3, 0), (69, .iload_n 1, 1, 0), (70, .bipush 12, 2, 12), (72, .iadd, 1, 0), (73, .iconst 0, 1, 0), (74, .iastore, 1, 0), (75, .iconst 0, 1, 0), (76, .istore_n 3, 1, 0), (77, .iload_n 3, 1, 0), (78, .aload_n 0, 1, 0), (79, .getfield 123, 3, 0), (82, .iload_n 1, 1, 0), (83, .iconst 4, 1, 4), (84, .iadd, 1, 0), (85, .iaload, 1, 0), (86, .if_icmp .ge 84, 3, 0), (89, .aload_n 0, 1, 0), (90, .getfield 123, 3, 0), (93, .iload_n 1, 1, 0), (94, .bipush 55, 2, 55), (96, .iadd, 1, 0), (97, .iload_n 3, 1, 0), (98, .iadd, 1, 0), (99, .iaload, 1, 0), (100, .istore 4, 2, 0), (102, .iload 4, 2, 0), (104, .ifCond .lt 23, 3, 0), (107, .aload_n 0, 1, 0), (108, .iload_n 1, 1, 0), (109, .aload_n 0, 1, 0), (110, .iload_n 1, 1, 0), (111, .invokevirtual 279, 3, 0), (114, .iconst 0, 1, 0), (115, .iload 4, 2, 0), (117, .invokevirtual 289, 3, 0), (120, .ifCond .ne 7, 3, 0), (123, .iconst 1, 1, 1), (124, .goto 4, 3, 0), (127, .iconst 0, 1, 0), (128, .istore 5, 2, 0), (130, .aload_n 0, 1, 0), (131, .getfield 123, 3, 0), (134, .iload_n 1, 1, 0), (135, .bipush 67, 2, 67), (137, .iadd, 1, 0), (138, .iload_n 3, 1, 0), (139, .iadd, 1, 0), (140, .iload 5, 2, 0), (142, .ifCond .eq 8, 3, 0), (145, .iload 4, 2, 0), (147, .goto 5, 3, 0), (150, .bipush (-3), 2, (-3)), (152, .iastore, 1, 0), (153, .iload 5, 2, 0), (155, .ifCond .eq 9, 3, 0), (158, .aload_n 0, 1, 0), (159, .iload_n 1, 1, 0), (160, .iload_n 3, 1, 0), (161, .invokevirtual 374, 3, 0), (164, .iinc 3 1, 3, 1), (167, .goto (-90), 3, 0), (170, .aload_n 0, 1, 0), (171, .iload_n 1, 1, 0), (172, .iconst 0, 1, 0), (173, .invokevirtual 377, 3, 0), (176, .iload_n 2, 1, 0), (177, .invokestatic 380, 3, 0), (180, .ireturn, 1, 0)], [(123, 12, 14, 4)], [(279, 0, 1, 1, f_Md_visible), (289, 0, 4, 1, f_Md_having), (371, 0, 2, 1, f_Md_hindering), (374, 0, 2, 0, f_Md_letsGo), (377, 0, 2, 0, f_Md_comes), (380, 1, 1, 1, f_Md_manyOf)], [], [], [(0, [0, 1, 2]), (77, [0, 1, 2, 3])], [], 2)
def f_Md_begun : mm_F := fun args h => mm_ga [1, 1, 1] args (mm_gd 12 args h (mm_run p_Md_begun (mm_fu + 1) 0 args [] h))
set_option maxRecDepth 100000 in
theorem e_Md_begun_0 (f : Nat) (t : Nat) (v1 : Int32) (v2 : Int32) (h : mm_H) : mm_run p_Md_begun (f + 1) 0 [.ref t, .int v1, .int v2] [] h =
  (mm_gr 12 14 h t).bind fun r1 =>
  (mm_li h r1 (v1 + 5)).bind fun x2 =>
  if x2 = 1 then
    some (some (.int (-1)), h)
  else
    if v2 = 0 then
      some (some (.int (-1)), h)
    else
      mm_ci (f_Md_hindering [.ref t, .int v1, .int v2] h) fun x4 h3 =>
      if x4 = 0 then
        (mm_gr 12 14 h3 t).bind fun r5 =>
        (mm_si h3 r5 (v1 + 5) 1).bind fun h6 =>
        (mm_gr 12 14 h6 t).bind fun r7 =>
        (mm_si h6 r7 (v1 + 1) v2).bind fun h8 =>
        (mm_gr 12 14 h8 t).bind fun r9 =>
        (mm_si h8 r9 (v1 + 10) 0).bind fun h10 =>
        (mm_gr 12 14 h10 t).bind fun r11 =>
        (mm_si h10 r11 (v1 + 11) 0).bind fun h12 =>
        (mm_gr 12 14 h12 t).bind fun r13 =>
        (mm_si h12 r13 (v1 + 12) 0).bind fun h14 =>
        mm_run p_Md_begun f 77 [.ref t, .int v1, .int v2, .int 0] [] h14
      else
        some (some (.int (-1)), h3) := rfl
theorem e_Md_begun (t : Nat) (v1 : Int32) (v2 : Int32) (h : mm_H) {fs : List Value} (hb : h t = some (.inr (12, fs))) : f_Md_begun [.ref t, .int v1, .int v2] h =
  (mm_gr 12 14 h t).bind fun r1 =>
  (mm_li h r1 (v1 + 5)).bind fun x2 =>
  if x2 = 1 then
    some (some (.int (-1)), h)
  else
    if v2 = 0 then
      some (some (.int (-1)), h)
    else
      mm_ci (f_Md_hindering [.ref t, .int v1, .int v2] h) fun x4 h3 =>
      if x4 = 0 then
        (mm_gr 12 14 h3 t).bind fun r5 =>
        (mm_si h3 r5 (v1 + 5) 1).bind fun h6 =>
        (mm_gr 12 14 h6 t).bind fun r7 =>
        (mm_si h6 r7 (v1 + 1) v2).bind fun h8 =>
        (mm_gr 12 14 h8 t).bind fun r9 =>
        (mm_si h8 r9 (v1 + 10) 0).bind fun h10 =>
        (mm_gr 12 14 h10 t).bind fun r11 =>
        (mm_si h10 r11 (v1 + 11) 0).bind fun h12 =>
        (mm_gr 12 14 h12 t).bind fun r13 =>
        (mm_si h12 r13 (v1 + 12) 0).bind fun h14 =>
        mm_run p_Md_begun mm_fu 77 [.ref t, .int v1, .int v2, .int 0] [] h14
      else
        some (some (.int (-1)), h3) := (mm_ga_is rfl).trans ((mm_gd_is hb).trans (e_Md_begun_0 mm_fu t v1 v2 h))
set_option maxRecDepth 100000 in
theorem e_Md_begun_77 (f : Nat) (t : Nat) (v1 : Int32) (v2 : Int32) (v3 : Int32) (h : mm_H) : mm_run p_Md_begun (f + 1) 77 [.ref t, .int v1, .int v2, .int v3] [] h =
  (mm_gr 12 14 h t).bind fun r1 =>
  (mm_li h r1 (v1 + 4)).bind fun x2 =>
  if v3 < x2 then
    (mm_gr 12 14 h t).bind fun r3 =>
    (mm_li h r3 ((v1 + 55) + v3)).bind fun x4 =>
    if x4 < 0 then
      (mm_gr 12 14 h t).bind fun r5 =>
      (mm_si h r5 ((v1 + 67) + v3) (-3)).bind fun h6 =>
      mm_run p_Md_begun f 77 [.ref t, .int v1, .int v2, .int (v3 + 1)] [] h6
    else
      mm_ci (f_Md_visible [.ref t, .int v1] h) fun x8 h7 =>
      mm_ci (f_Md_having [.ref t, .int v1, .int x8, .int 0, .int x4] h7) fun x10 h9 =>
      if x10 = 0 then
        (mm_gr 12 14 h9 t).bind fun r11 =>
        (mm_si h9 r11 ((v1 + 67) + v3) x4).bind fun h12 =>
        mm_cv (f_Md_letsGo [.ref t, .int v1, .int v3] h12) fun h13 =>
        mm_run p_Md_begun f 77 [.ref t, .int v1, .int v2, .int (v3 + 1)] [] h13
      else
        (mm_gr 12 14 h9 t).bind fun r14 =>
        (mm_si h9 r14 ((v1 + 67) + v3) (-3)).bind fun h15 =>
        mm_run p_Md_begun f 77 [.ref t, .int v1, .int v2, .int (v3 + 1)] [] h15
  else
    mm_cv (f_Md_comes [.ref t, .int v1, .int 0] h) fun h16 =>
    mm_ci (f_Md_manyOf [.int v2] h16) fun x18 h17 =>
    some (some (.int x18), h17) := rfl
set_option maxRecDepth 100000 in
theorem i_Md_begun (l : Launch) : mm_Imp l yX12_begun cX12_begun 6 (some .int) 8 f_Md_begun := mm_imp l (P := p_Md_begun) mm_cls_ok mm_sys_ok (by decide) (mm_Pok_of (List.forall_mem_cons.mpr ⟨k_X12_123, (fun _ h => absurd h List.not_mem_nil)⟩) (List.forall_mem_cons.mpr ⟨v_Md_visible l q_1772 (by decide), (List.forall_mem_cons.mpr ⟨v_Md_having l q_1776 (by decide), (List.forall_mem_cons.mpr ⟨v_Md_hindering l q_2182 (by decide), (List.forall_mem_cons.mpr ⟨v_Md_letsGo l q_2114 (by decide), (List.forall_mem_cons.mpr ⟨v_Md_comes l q_2190 (by decide), (List.forall_mem_cons.mpr ⟨v_Md_manyOf l (Or.inl q_2214) (by decide), (fun _ h => absurd h List.not_mem_nil)⟩)⟩)⟩)⟩)⟩)⟩) (fun _ h => absurd h List.not_mem_nil) (fun _ h => absurd h List.not_mem_nil)) (by decide +kernel) rfl (cats := [1, 1, 1]) (fun as h r e => ⟨(mm_ga_inv e).1, (mm_gd_inv (mm_ga_inv e).2).1⟩) rfl (by decide)
theorem v_Md_begun (l : Launch) {own : String} {i n0 : Nat} (hl : Cond.methodLink own i yX12_begun ∈ mm_tbl) (hn : 9 ≤ n0) : mm_cok l own n0 i (0, 2, 1, f_Md_begun) := Or.inr (Or.inr ⟨rfl, yX12_begun, cX12_begun, 6, (some .int), 8, 12, TX12, 27, i_Md_begun l, hn, by decide, by decide +kernel, rfl, fun _ _ _ e => (mm_gd_inv (mm_ga_inv e).2).2, hl, q_2180, q_125, q_179, q_2181⟩)
def p_Md_isGoing : mm_P := ([(0, .aload_n 0, 1, 0), (1, .getfield 123, 3, 0), (4, .iload_n 1, 1, 0), (5, .iconst 5, 1, 5), (6, .iadd, 1, 0), (7, .iaload, 1, 0), (8, .iconst 1, 1, 1), (9, .if_icmp .ne 19, 3, 0), (12, .aload_n 0, 1, 0), (13, .getfield 123, 3, 0), (16, .iload_n 1, 1, 0), (17, .bipush 11, 2, 11), (19, .iadd, 1, 0), (20, .iaload, 1, 0), (21, .ifCond .ne 7, 3, 0), (24, .iconst 1, 1, 1), (25, .goto 4, 3, 0), (28, .iconst 0, 1, 0), (29, .ireturn, 1, 0)], [(123, 12, 14, 4)], [], [], [], [(0, [0, 1])], [], 1)
def f_Md_isGoing : mm_F := fun args h => mm_ga [1, 1] args (mm_gd 12 args h (mm_run p_Md_isGoing (mm_fu + 1) 0 args [] h))
set_option maxRecDepth 100000 in
theorem e_Md_isGoing_0 (f : Nat) (t : Nat) (v1 : Int32) (h : mm_H) : mm_run p_Md_isGoing (f + 1) 0 [.ref t, .int v1] [] h =
  (mm_gr 12 14 h t).bind fun r1 =>
  (mm_li h r1 (v1 + 5)).bind fun x2 =>
  if x2 = 1 then
    (mm_gr 12 14 h t).bind fun r3 =>
    (mm_li h r3 (v1 + 11)).bind fun x4 =>
    if x4 = 0 then
      some (some (.int 1), h)
    else
      some (some (.int 0), h)
  else
    some (some (.int 0), h) := rfl
theorem e_Md_isGoing (t : Nat) (v1 : Int32) (h : mm_H) {fs : List Value} (hb : h t = some (.inr (12, fs))) : f_Md_isGoing [.ref t, .int v1] h =
  (mm_gr 12 14 h t).bind fun r1 =>
  (mm_li h r1 (v1 + 5)).bind fun x2 =>
  if x2 = 1 then
    (mm_gr 12 14 h t).bind fun r3 =>
    (mm_li h r3 (v1 + 11)).bind fun x4 =>
    if x4 = 0 then
      some (some (.int 1), h)
    else
      some (some (.int 0), h)
  else
    some (some (.int 0), h) := (mm_ga_is rfl).trans ((mm_gd_is hb).trans (e_Md_isGoing_0 mm_fu t v1 h))
set_option maxRecDepth 100000 in
theorem i_Md_isGoing (l : Launch) : mm_Imp l yX12_isGoing cX12_isGoing 2 (some .boolean) 1 f_Md_isGoing := mm_imp l (P := p_Md_isGoing) mm_cls_ok mm_sys_ok (by decide) (mm_Pok_of (List.forall_mem_cons.mpr ⟨k_X12_123, (fun _ h => absurd h List.not_mem_nil)⟩) (fun _ h => absurd h List.not_mem_nil) (fun _ h => absurd h List.not_mem_nil) (fun _ h => absurd h List.not_mem_nil)) (by decide +kernel) rfl (cats := [1, 1]) (fun as h r e => ⟨(mm_ga_inv e).1, (mm_gd_inv (mm_ga_inv e).2).1⟩) rfl (by decide)
theorem v_Md_isGoing (l : Launch) {own : String} {i n0 : Nat} (hl : Cond.methodLink own i yX12_isGoing ∈ mm_tbl) (hn : 2 ≤ n0) : mm_cok l own n0 i (0, 1, 1, f_Md_isGoing) := Or.inr (Or.inr ⟨rfl, yX12_isGoing, cX12_isGoing, 2, (some .boolean), 1, 12, TX12, 27, i_Md_isGoing l, hn, by decide, by decide +kernel, rfl, fun _ _ _ e => (mm_gd_inv (mm_ga_inv e).2).2, hl, q_2227, q_135, q_179, q_2228⟩)
def p_Md_carries : mm_P := ([(0, .aload_n 0, 1, 0), (1, .getfield 123, 3, 0), (4, .iload_n 1, 1, 0), (5, .bipush 6, 2, 6), (7, .iadd, 1, 0), (8, .iaload, 1, 0), (9, .istore_n 2, 1, 0), (10, .iconst 0, 1, 0), (11, .istore_n 3, 1, 0), (12, .iload_n 3, 1, 0), (13, .aload_n 0, 1, 0), (14, .getfield 123, 3, 0), (17, .iload_n 1, 1, 0), (18, .bipush 12, 2, 12), (20, .iadd, 1, 0), (21, .iaload, 1, 0), (22, .if_icmp .ge 94, 3, 0), (25, .aload_n 0, 1, 0), (26, .getfield 123, 3, 0), (29, .iload_n 1, 1, 0), (30, .bipush 79, 2, 79), (32, .iadd, 1, 0), (33, .iload_n 3, 1, 0), (34, .iadd, 1, 0), (35, .iaload, 1, 0), (36, .istore 4, 2, 0), (38, .iload 4, 2, 0), (40, .ifCond .ge 12, 3, 0), (43, .iload 4, 2, 0), (45, .ldc_w 383, 3, 0), (48, .iadd, 1, 0), (49, .goto 5, 3, 0), (52, .iload 4, 2, 0), (54, .istore 5, 2, 0), (56, .iload 4, 2, 0), (58, .ifCond .ge 29, 3, 0), (61, .aload_n 0, 1, 0), (62, .iload_n 1, 1, 0), (63, .iload_n 2, 1, 0), (64, .aload_n 0, 1, 0), (65, .iload_n 2, 1, 0), (66, .iload 5, 2, 0), (68, .sipush 1000, 3, 1000), (71, .idiv, 1, 0), (72, .iload 5, 2, 0), (74, .sipush 1000, 3, 1000), (77, .irem, 1, 0), (78, .invokevirtual 384, 3, 0), (81, .invokevirtual 387, 3, 0), (84, .goto 26, 3, 0), (87, .aload_n 0, 1, 0), (88, .iload_n 1, 1, 0), (89, .iload_n 2, 1, 0), (90, .aload_n 0, 1, 0), (91, .iload_n 2, 1, 0), (92, .iload 5, 2, 0), (94, .sipush 1000, 3, 1000), (97, .idiv, 1, 0), (98, .iload 5, 2, 0), (100, .sipush 1000, 3, 1000), (103, .irem, 1, 0), (104, .invokevirtual 384, 3, 0), (107, .invokevirtual 390, 3, 0), (110, .iinc 3 1, 3, 1), (113, .goto (-101), 3, 0), (116, .aload_n 0, 1, 0), (117, .getfield 123, 3, 0), (120, .iload_n 1, 1, 0), (121, .bipush 12, 2, 12), (123, .iadd, 1, 0), (124, .iconst 0, 1, 0), (125, .iastore, 1, 0), (126, .return_, 1, 0)], [(123, 12, 14, 4)], [(384, 0, 3, 1, f_Md_entryOf), (387, 0, 3, 0, f_Md_takes), (390, 0, 3, 0, f_Md_puts)], [(383, 40000)], [], [(0, [0, 1]), (12, [0, 1, 2, 3])], [], 0)
def f_Md_carries : mm_F := fun args h => mm_ga [1, 1] args (mm_gd 12 args h (mm_run p_Md_carries (mm_fu + 1) 0 args [] h))
set_option maxRecDepth 100000 in
theorem e_Md_carries_0 (f : Nat) (t : Nat) (v1 : Int32) (h : mm_H) : mm_run p_Md_carries (f + 1) 0 [.ref t, .int v1] [] h =
  (mm_gr 12 14 h t).bind fun r1 =>
  (mm_li h r1 (v1 + 6)).bind fun x2 =>
  mm_run p_Md_carries f 12 [.ref t, .int v1, .int x2, .int 0] [] h := rfl
theorem e_Md_carries (t : Nat) (v1 : Int32) (h : mm_H) {fs : List Value} (hb : h t = some (.inr (12, fs))) : f_Md_carries [.ref t, .int v1] h =
  (mm_gr 12 14 h t).bind fun r1 =>
  (mm_li h r1 (v1 + 6)).bind fun x2 =>
  mm_run p_Md_carries mm_fu 12 [.ref t, .int v1, .int x2, .int 0] [] h := (mm_ga_is rfl).trans ((mm_gd_is hb).trans (e_Md_carries_0 mm_fu t v1 h))
set_option maxRecDepth 100000 in
theorem e_Md_carries_12 (f : Nat) (t : Nat) (v1 : Int32) (v2 : Int32) (v3 : Int32) (h : mm_H) : mm_run p_Md_carries (f + 1) 12 [.ref t, .int v1, .int v2, .int v3] [] h =
  (mm_gr 12 14 h t).bind fun r1 =>
  (mm_li h r1 (v1 + 12)).bind fun x2 =>
  if v3 < x2 then
    (mm_gr 12 14 h t).bind fun r3 =>
    (mm_li h r3 ((v1 + 79) + v3)).bind fun x4 =>
    if x4 < 0 then
      if x4 < 0 then
        mm_ci (f_Md_entryOf [.ref t, .int v2, .int ((x4 + 40000) / 1000), .int (mm_rem (x4 + 40000) 1000)] h) fun x6 h5 =>
        mm_cv (f_Md_takes [.ref t, .int v1, .int v2, .int x6] h5) fun h7 =>
        mm_run p_Md_carries f 12 [.ref t, .int v1, .int v2, .int (v3 + 1)] [] h7
      else
        mm_ci (f_Md_entryOf [.ref t, .int v2, .int ((x4 + 40000) / 1000), .int (mm_rem (x4 + 40000) 1000)] h) fun x9 h8 =>
        mm_cv (f_Md_puts [.ref t, .int v1, .int v2, .int x9] h8) fun h10 =>
        mm_run p_Md_carries f 12 [.ref t, .int v1, .int v2, .int (v3 + 1)] [] h10
    else
      if x4 < 0 then
        mm_ci (f_Md_entryOf [.ref t, .int v2, .int (x4 / 1000), .int (mm_rem x4 1000)] h) fun x12 h11 =>
        mm_cv (f_Md_takes [.ref t, .int v1, .int v2, .int x12] h11) fun h13 =>
        mm_run p_Md_carries f 12 [.ref t, .int v1, .int v2, .int (v3 + 1)] [] h13
      else
        mm_ci (f_Md_entryOf [.ref t, .int v2, .int (x4 / 1000), .int (mm_rem x4 1000)] h) fun x15 h14 =>
        mm_cv (f_Md_puts [.ref t, .int v1, .int v2, .int x15] h14) fun h16 =>
        mm_run p_Md_carries f 12 [.ref t, .int v1, .int v2, .int (v3 + 1)] [] h16
  else
    (mm_gr 12 14 h t).bind fun r17 =>
    (mm_si h r17 (v1 + 12) 0).bind fun h18 =>
    some (none, h18) := rfl
set_option maxRecDepth 100000 in
theorem i_Md_carries (l : Launch) : mm_Imp l yX12_carries cX12_carries 6 none 6 f_Md_carries := mm_imp l (P := p_Md_carries) mm_cls_ok mm_sys_ok (by decide) (mm_Pok_of (List.forall_mem_cons.mpr ⟨k_X12_123, (fun _ h => absurd h List.not_mem_nil)⟩) (List.forall_mem_cons.mpr ⟨v_Md_entryOf l q_1791 (by decide), (List.forall_mem_cons.mpr ⟨v_Md_takes l q_2123 (by decide), (List.forall_mem_cons.mpr ⟨v_Md_puts l q_1795 (by decide), (fun _ h => absurd h List.not_mem_nil)⟩)⟩)⟩) (List.forall_mem_cons.mpr ⟨q_2122, (fun _ h => absurd h List.not_mem_nil)⟩) (fun _ h => absurd h List.not_mem_nil)) (by decide +kernel) rfl (cats := [1, 1]) (fun as h r e => ⟨(mm_ga_inv e).1, (mm_gd_inv (mm_ga_inv e).2).1⟩) rfl (by decide)
theorem v_Md_carries (l : Launch) {own : String} {i n0 : Nat} (hl : Cond.methodLink own i yX12_carries ∈ mm_tbl) (hn : 7 ≤ n0) : mm_cok l own n0 i (0, 1, 0, f_Md_carries) := Or.inr (Or.inr ⟨rfl, yX12_carries, cX12_carries, 6, none, 6, 12, TX12, 27, i_Md_carries l, hn, by decide, by decide +kernel, rfl, fun _ _ _ e => (mm_gd_inv (mm_ga_inv e).2).2, hl, q_2247, q_140, q_179, q_2248⟩)
def p_Md_records : mm_P := ([(0, .aload_n 0, 1, 0), (1, .getfield 123, 3, 0), (4, .iload_n 1, 1, 0), (5, .iconst 3, 1, 3), (6, .iadd, 1, 0), (7, .dup2, 1, 0), (8, .iaload, 1, 0), (9, .iconst 1, 1, 1), (10, .iadd, 1, 0), (11, .iastore, 1, 0), (12, .aload_n 0, 1, 0), (13, .getfield 123, 3, 0), (16, .iload_n 1, 1, 0), (17, .bipush 8, 2, 8), (19, .iadd, 1, 0), (20, .iconst 0, 1, 0), (21, .iastore, 1, 0), (22, .iload_n 1, 1, 0), (23, .bipush 119, 2, 119), (25, .iadd, 1, 0), (26, .iconst 2, 1, 2), (27, .aload_n 0, 1, 0), (28, .getfield 123, 3, 0), (31, .iload_n 1, 1, 0), (32, .bipush 10, 2, 10), (34, .iadd, 1, 0), (35, .iaload, 1, 0), (36, .imul, 1, 0), (37, .iadd, 1, 0), (38, .istore_n 2, 1, 0), (39, .aload_n 0, 1, 0), (40, .getfield 123, 3, 0), (43, .iload_n 2, 1, 0), (44, .bipush 32, 2, 32), (46, .aload_n 0, 1, 0), (47, .getfield 123, 3, 0), (50, .iload_n 1, 1, 0), (51, .bipush 6, 2, 6), (53, .iadd, 1, 0), (54, .iaload, 1, 0), (55, .imul, 1, 0), (56, .aload_n 0, 1, 0), (57, .getfield 123, 3, 0), (60, .iload_n 1, 1, 0), (61, .bipush 9, 2, 9), (63, .iadd, 1, 0), (64, .iaload, 1, 0), (65, .iadd, 1, 0), (66, .iastore, 1, 0), (67, .aload_n 0, 1, 0), (68, .getfield 123, 3, 0), (71, .iload_n 2, 1, 0), (72, .iconst 1, 1, 1), (73, .iadd, 1, 0), (74, .aload_n 0, 1, 0), (75, .getfield 123, 3, 0), (78, .iload_n 1, 1, 0), (79, .iconst 3, 1, 3), (80, .iadd, 1, 0), (81, .iaload, 1, 0), (82, .iastore, 1, 0), (83, .aload_n 0, 1, 0), (84, .getfield 123, 3, 0), (87, .iload_n 1, 1, 0), (88, .bipush 10, 2, 10), (90, .iadd, 1, 0), (91, .dup2, 1, 0), (92, .iaload, 1, 0), (93, .iconst 1, 1, 1), (94, .iadd, 1, 0), (95, .iastore, 1, 0), (96, .aload_n 0, 1, 0), (97, .iload_n 1, 1, 0), (98, .invokevirtual 365, 3, 0), (101, .return_, 1, 0)], [(123, 12, 14, 4)], [(365, 0, 1, 0, f_Md_stands)], [], [], [(0, [0, 1])], [], 0)
def f_Md_records : mm_F := fun args h => mm_ga [1, 1] args (mm_gd 12 args h (mm_run p_Md_records (mm_fu + 1) 0 args [] h))
set_option maxRecDepth 100000 in
theorem e_Md_records_0 (f : Nat) (t : Nat) (v1 : Int32) (h : mm_H) : mm_run p_Md_records (f + 1) 0 [.ref t, .int v1] [] h =
  (mm_gr 12 14 h t).bind fun r1 =>
  (mm_li h r1 (v1 + 3)).bind fun x2 =>
  (mm_si h r1 (v1 + 3) (x2 + 1)).bind fun h3 =>
  (mm_gr 12 14 h3 t).bind fun r4 =>
  (mm_si h3 r4 (v1 + 8) 0).bind fun h5 =>
  (mm_gr 12 14 h5 t).bind fun r6 =>
  (mm_li h5 r6 (v1 + 10)).bind fun x7 =>
  (mm_gr 12 14 h5 t).bind fun r8 =>
  (mm_gr 12 14 h5 t).bind fun r9 =>
  (mm_li h5 r9 (v1 + 6)).bind fun x10 =>
  (mm_gr 12 14 h5 t).bind fun r11 =>
  (mm_li h5 r11 (v1 + 9)).bind fun x12 =>
  (mm_si h5 r8 ((v1 + 119) + (2 * x7)) ((32 * x10) + x12)).bind fun h13 =>
  (mm_gr 12 14 h13 t).bind fun r14 =>
  (mm_gr 12 14 h13 t).bind fun r15 =>
  (mm_li h13 r15 (v1 + 3)).bind fun x16 =>
  (mm_si h13 r14 (((v1 + 119) + (2 * x7)) + 1) x16).bind fun h17 =>
  (mm_gr 12 14 h17 t).bind fun r18 =>
  (mm_li h17 r18 (v1 + 10)).bind fun x19 =>
  (mm_si h17 r18 (v1 + 10) (x19 + 1)).bind fun h20 =>
  mm_cv (f_Md_stands [.ref t, .int v1] h20) fun h21 =>
  some (none, h21) := rfl
theorem e_Md_records (t : Nat) (v1 : Int32) (h : mm_H) {fs : List Value} (hb : h t = some (.inr (12, fs))) : f_Md_records [.ref t, .int v1] h =
  (mm_gr 12 14 h t).bind fun r1 =>
  (mm_li h r1 (v1 + 3)).bind fun x2 =>
  (mm_si h r1 (v1 + 3) (x2 + 1)).bind fun h3 =>
  (mm_gr 12 14 h3 t).bind fun r4 =>
  (mm_si h3 r4 (v1 + 8) 0).bind fun h5 =>
  (mm_gr 12 14 h5 t).bind fun r6 =>
  (mm_li h5 r6 (v1 + 10)).bind fun x7 =>
  (mm_gr 12 14 h5 t).bind fun r8 =>
  (mm_gr 12 14 h5 t).bind fun r9 =>
  (mm_li h5 r9 (v1 + 6)).bind fun x10 =>
  (mm_gr 12 14 h5 t).bind fun r11 =>
  (mm_li h5 r11 (v1 + 9)).bind fun x12 =>
  (mm_si h5 r8 ((v1 + 119) + (2 * x7)) ((32 * x10) + x12)).bind fun h13 =>
  (mm_gr 12 14 h13 t).bind fun r14 =>
  (mm_gr 12 14 h13 t).bind fun r15 =>
  (mm_li h13 r15 (v1 + 3)).bind fun x16 =>
  (mm_si h13 r14 (((v1 + 119) + (2 * x7)) + 1) x16).bind fun h17 =>
  (mm_gr 12 14 h17 t).bind fun r18 =>
  (mm_li h17 r18 (v1 + 10)).bind fun x19 =>
  (mm_si h17 r18 (v1 + 10) (x19 + 1)).bind fun h20 =>
  mm_cv (f_Md_stands [.ref t, .int v1] h20) fun h21 =>
  some (none, h21) := (mm_ga_is rfl).trans ((mm_gd_is hb).trans (e_Md_records_0 mm_fu t v1 h))
set_option maxRecDepth 100000 in
theorem i_Md_records (l : Launch) : mm_Imp l yX12_records cX12_records 3 none 3 f_Md_records := mm_imp l (P := p_Md_records) mm_cls_ok mm_sys_ok (by decide) (mm_Pok_of (List.forall_mem_cons.mpr ⟨k_X12_123, (fun _ h => absurd h List.not_mem_nil)⟩) (List.forall_mem_cons.mpr ⟨v_Md_stands l q_2210 (by decide), (fun _ h => absurd h List.not_mem_nil)⟩) (fun _ h => absurd h List.not_mem_nil) (fun _ h => absurd h List.not_mem_nil)) (by decide +kernel) rfl (cats := [1, 1]) (fun as h r e => ⟨(mm_ga_inv e).1, (mm_gd_inv (mm_ga_inv e).2).1⟩) rfl (by decide)
theorem v_Md_records (l : Launch) {own : String} {i n0 : Nat} (hl : Cond.methodLink own i yX12_records ∈ mm_tbl) (hn : 4 ≤ n0) : mm_cok l own n0 i (0, 1, 0, f_Md_records) := Or.inr (Or.inr ⟨rfl, yX12_records, cX12_records, 3, none, 3, 12, TX12, 27, i_Md_records l, hn, by decide, by decide +kernel, rfl, fun _ _ _ e => (mm_gd_inv (mm_ga_inv e).2).2, hl, q_2243, q_139, q_179, q_2244⟩)
def p_Md_ends : mm_P := ([(0, .aload_n 0, 1, 0), (1, .getfield 123, 3, 0), (4, .iload_n 1, 1, 0), (5, .iconst 5, 1, 5), (6, .iadd, 1, 0), (7, .iconst 0, 1, 0), (8, .iastore, 1, 0), (9, .aload_n 0, 1, 0), (10, .getfield 123, 3, 0), (13, .iload_n 1, 1, 0), (14, .iconst 1, 1, 1), (15, .iadd, 1, 0), (16, .iconst 0, 1, 0), (17, .iastore, 1, 0), (18, .return_, 1, 0)], [(123, 12, 14, 4)], [], [], [], [(0, [0, 1])], [], 0)
def f_Md_ends : mm_F := fun args h => mm_ga [1, 1] args (mm_gd 12 args h (mm_run p_Md_ends (mm_fu + 1) 0 args [] h))
set_option maxRecDepth 100000 in
theorem e_Md_ends_0 (f : Nat) (t : Nat) (v1 : Int32) (h : mm_H) : mm_run p_Md_ends (f + 1) 0 [.ref t, .int v1] [] h =
  (mm_gr 12 14 h t).bind fun r1 =>
  (mm_si h r1 (v1 + 5) 0).bind fun h2 =>
  (mm_gr 12 14 h2 t).bind fun r3 =>
  (mm_si h2 r3 (v1 + 1) 0).bind fun h4 =>
  some (none, h4) := rfl
theorem e_Md_ends (t : Nat) (v1 : Int32) (h : mm_H) {fs : List Value} (hb : h t = some (.inr (12, fs))) : f_Md_ends [.ref t, .int v1] h =
  (mm_gr 12 14 h t).bind fun r1 =>
  (mm_si h r1 (v1 + 5) 0).bind fun h2 =>
  (mm_gr 12 14 h2 t).bind fun r3 =>
  (mm_si h2 r3 (v1 + 1) 0).bind fun h4 =>
  some (none, h4) := (mm_ga_is rfl).trans ((mm_gd_is hb).trans (e_Md_ends_0 mm_fu t v1 h))
set_option maxRecDepth 100000 in
theorem i_Md_ends (l : Launch) : mm_Imp l yX12_ends cX12_ends 2 none 1 f_Md_ends := mm_imp l (P := p_Md_ends) mm_cls_ok mm_sys_ok (by decide) (mm_Pok_of (List.forall_mem_cons.mpr ⟨k_X12_123, (fun _ h => absurd h List.not_mem_nil)⟩) (fun _ h => absurd h List.not_mem_nil) (fun _ h => absurd h List.not_mem_nil) (fun _ h => absurd h List.not_mem_nil)) (by decide +kernel) rfl (cats := [1, 1]) (fun as h r e => ⟨(mm_ga_inv e).1, (mm_gd_inv (mm_ga_inv e).2).1⟩) rfl (by decide)
theorem v_Md_ends (l : Launch) {own : String} {i n0 : Nat} (hl : Cond.methodLink own i yX12_ends ∈ mm_tbl) (hn : 2 ≤ n0) : mm_cok l own n0 i (0, 1, 0, f_Md_ends) := Or.inr (Or.inr ⟨rfl, yX12_ends, cX12_ends, 2, none, 1, 12, TX12, 27, i_Md_ends l, hn, by decide, by decide +kernel, rfl, fun _ _ _ e => (mm_gd_inv (mm_ga_inv e).2).2, hl, q_2231, q_136, q_179, q_2232⟩)
def p_Md_stepped : mm_P := ([(0, .aload_n 0, 1, 0), (1, .iload_n 1, 1, 0), (2, .invokevirtual 393, 3, 0), (5, .ifCond .ne 5, 3, 0), (8, .iconst (-1), 1, (-1)), (9, .ireturn, 1, 0), (10, .aload_n 0, 1, 0), (11, .getfield 123, 3, 0), (14, .iload_n 1, 1, 0), (15, .bipush 6, 2, 6), (17, .iadd, 1, 0), (18, .iaload, 1, 0), (19, .istore_n 2, 1, 0), (20, .iload_n 2, 1, 0), (21, .iconst 4, 1, 4), (22, .if_icmp .ne 32, 3, 0), (25, .aload_n 0, 1, 0), (26, .getfield 123, 3, 0), (29, .iload_n 1, 1, 0), (30, .iconst 0, 1, 0), (31, .iadd, 1, 0), (32, .dup2, 1, 0), (33, .iaload, 1, 0), (34, .aload_n 0, 1, 0), (35, .getfield 123, 3, 0), (38, .iload_n 1, 1, 0), (39, .iconst 1, 1, 1), (40, .iadd, 1, 0), (41, .iaload, 1, 0), (42, .iconst (-1), 1, (-1)), (43, .ixor, 1, 0), (44, .iand, 1, 0), (45, .iastore, 1, 0), (46, .aload_n 0, 1, 0), (47, .iload_n 1, 1, 0), (48, .invokevirtual 396, 3, 0), (51, .bipush (-2), 2, (-2)), (53, .ireturn, 1, 0), (54, .aload_n 0, 1, 0), (55, .iload_n 1, 1, 0), (56, .iload_n 2, 1, 0), (57, .aload_n 0, 1, 0), (58, .getfield 123, 3, 0), (61, .iload_n 1, 1, 0), (62, .bipush 7, 2, 7), (64, .iadd, 1, 0), (65, .iaload, 1, 0), (66, .iconst 0, 1, 0), (67, .invokevirtual 399, 3, 0), (70, .istore_n 3, 1, 0), (71, .aload_n 0, 1, 0), (72, .iload_n 1, 1, 0), (73, .iload_n 2, 1, 0), (74, .iload_n 3, 1, 0), (75, .invokevirtual 344, 3, 0), (78, .istore 4, 2, 0), (80, .aload_n 0, 1, 0), (81, .iload_n 1, 1, 0), (82, .iload_n 2, 1, 0), (83, .iload_n 3, 1, 0), (84, .invokevirtual 338, 3, 0), (87, .aload_n 0, 1, 0), (88, .getfield 123, 3, 0), (91, .iload_n 1, 1, 0), (92, .bipush 8, 2, 8), (94, .iadd, 1, 0), (95, .dup2, 1, 0), (96, .iaload, 1, 0), (97, .iconst 1, 1, 1), (98, .iadd, 1, 0), (99, .iastore, 1, 0), (100, .aload_n 0, 1, 0), (101, .getfield 123, 3, 0), (104, .iload_n 1, 1, 0), (105, .bipush 9, 2, 9), (107, .iadd, 1, 0), (108, .dup2, 1, 0), (109, .iaload, 1, 0), (110, .iconst 1, 1, 1), (111, .iadd, 1, 0), (112, .iastore, 1, 0), (113, .aload_n 0, 1, 0), (114, .iload_n 1, 1, 0), (115, .iload_n 2, 1, 0), (116, .aload_n 0, 1, 0), (117, .getfield 123, 3, 0), (120, .iload_n 1, 1, 0), (121, .iconst 1, 1, 1), (122, .iadd, 1, 0), (123, .iaload, 1, 0), (124, .invokevirtual 347, 3, 0), (127, .ifCond .ne 7, 3, 0), (130, .iconst 1, 1, 1), (131, .goto 4, 3, 0), (134, .iconst 0, 1, 0), (135, .istore 5, 2, 0), (137, .iload 5, 2, 0), (139, .ifCond .ne 19, 3, 0), (142, .aload_n 0, 1, 0), (143, .getfield 123, 3, 0), (146, .iload_n 1, 1, 0), (147, .bipush 8, 2, 8), (149, .iadd, 1, 0), (150, .iaload, 1, 0), (151, .aload_n 0, 1, 0), (152, .getfield 402, 3, 0), (155, .if_icmp .lt 8, 3, 0), (158, .aload_n 0, 1, 0), (159, .iload_n 1, 1, 0), (160, .invokevirtual 405, 3, 0), (163, .iload 5, 2, 0), (165, .ifCond .eq 16, 3, 0), (168, .aload_n 0, 1, 0), (169, .iload_n 1, 1, 0), (170, .invokevirtual 408, 3, 0), (173, .aload_n 0, 1, 0), (174, .iload_n 1, 1, 0), (175, .iload_n 2, 1, 0), (176, .iconst 1, 1, 1), (177, .iadd, 1, 0), (178, .invokevirtual 377, 3, 0), (181, .iload 4, 2, 0), (183, .ireturn, 1, 0)], [(123, 12, 14, 4), (402, 12, 16, 0)], [(338, 0, 3, 0, f_Md_goesOut), (344, 0, 3, 1, f_Md_rowAt), (347, 0, 3, 1, f_Md_leftMany), (377, 0, 2, 0, f_Md_comes), (393, 0, 1, 1, f_Md_isGoing), (396, 0, 1, 0, f_Md_ends), (399, 0, 4, 1, f_Md_leftAt), (405, 0, 1, 0, f_Md_records), (408, 0, 1, 0, f_Md_carries)], [], [], [(0, [0, 1]), (135, [0, 1, 2, 4])], [], 2)
def f_Md_stepped : mm_F := fun args h => mm_ga [1, 1] args (mm_gd 12 args h (mm_run p_Md_stepped (mm_fu + 1) 0 args [] h))
set_option maxRecDepth 100000 in
theorem e_Md_stepped_0 (f : Nat) (t : Nat) (v1 : Int32) (h : mm_H) : mm_run p_Md_stepped (f + 1) 0 [.ref t, .int v1] [] h =
  mm_ci (f_Md_isGoing [.ref t, .int v1] h) fun x2 h1 =>
  if x2 = 0 then
    some (some (.int (-1)), h1)
  else
    (mm_gr 12 14 h1 t).bind fun r3 =>
    (mm_li h1 r3 (v1 + 6)).bind fun x4 =>
    if x4 = 4 then
      (mm_gr 12 14 h1 t).bind fun r5 =>
      (mm_li h1 r5 (v1 + 0)).bind fun x6 =>
      (mm_gr 12 14 h1 t).bind fun r7 =>
      (mm_li h1 r7 (v1 + 1)).bind fun x8 =>
      (mm_si h1 r5 (v1 + 0) (x6 &&& (x8 ^^^ (-1)))).bind fun h9 =>
      mm_cv (f_Md_ends [.ref t, .int v1] h9) fun h10 =>
      some (some (.int (-2)), h10)
    else
      (mm_gr 12 14 h1 t).bind fun r11 =>
      (mm_li h1 r11 (v1 + 7)).bind fun x12 =>
      mm_ci (f_Md_leftAt [.ref t, .int v1, .int x4, .int x12, .int 0] h1) fun x14 h13 =>
      mm_ci (f_Md_rowAt [.ref t, .int v1, .int x4, .int x14] h13) fun x16 h15 =>
      mm_cv (f_Md_goesOut [.ref t, .int v1, .int x4, .int x14] h15) fun h17 =>
      (mm_gr 12 14 h17 t).bind fun r18 =>
      (mm_li h17 r18 (v1 + 8)).bind fun x19 =>
      (mm_si h17 r18 (v1 + 8) (x19 + 1)).bind fun h20 =>
      (mm_gr 12 14 h20 t).bind fun r21 =>
      (mm_li h20 r21 (v1 + 9)).bind fun x22 =>
      (mm_si h20 r21 (v1 + 9) (x22 + 1)).bind fun h23 =>
      (mm_gr 12 14 h23 t).bind fun r24 =>
      (mm_li h23 r24 (v1 + 1)).bind fun x25 =>
      mm_ci (f_Md_leftMany [.ref t, .int v1, .int x4, .int x25] h23) fun x27 h26 =>
      if x27 = 0 then
        mm_run p_Md_stepped f 135 [.ref t, .int v1, .int x4, .int x16] [.int 1] h26
      else
        mm_run p_Md_stepped f 135 [.ref t, .int v1, .int x4, .int x16] [.int 0] h26 := rfl
theorem e_Md_stepped (t : Nat) (v1 : Int32) (h : mm_H) {fs : List Value} (hb : h t = some (.inr (12, fs))) : f_Md_stepped [.ref t, .int v1] h =
  mm_ci (f_Md_isGoing [.ref t, .int v1] h) fun x2 h1 =>
  if x2 = 0 then
    some (some (.int (-1)), h1)
  else
    (mm_gr 12 14 h1 t).bind fun r3 =>
    (mm_li h1 r3 (v1 + 6)).bind fun x4 =>
    if x4 = 4 then
      (mm_gr 12 14 h1 t).bind fun r5 =>
      (mm_li h1 r5 (v1 + 0)).bind fun x6 =>
      (mm_gr 12 14 h1 t).bind fun r7 =>
      (mm_li h1 r7 (v1 + 1)).bind fun x8 =>
      (mm_si h1 r5 (v1 + 0) (x6 &&& (x8 ^^^ (-1)))).bind fun h9 =>
      mm_cv (f_Md_ends [.ref t, .int v1] h9) fun h10 =>
      some (some (.int (-2)), h10)
    else
      (mm_gr 12 14 h1 t).bind fun r11 =>
      (mm_li h1 r11 (v1 + 7)).bind fun x12 =>
      mm_ci (f_Md_leftAt [.ref t, .int v1, .int x4, .int x12, .int 0] h1) fun x14 h13 =>
      mm_ci (f_Md_rowAt [.ref t, .int v1, .int x4, .int x14] h13) fun x16 h15 =>
      mm_cv (f_Md_goesOut [.ref t, .int v1, .int x4, .int x14] h15) fun h17 =>
      (mm_gr 12 14 h17 t).bind fun r18 =>
      (mm_li h17 r18 (v1 + 8)).bind fun x19 =>
      (mm_si h17 r18 (v1 + 8) (x19 + 1)).bind fun h20 =>
      (mm_gr 12 14 h20 t).bind fun r21 =>
      (mm_li h20 r21 (v1 + 9)).bind fun x22 =>
      (mm_si h20 r21 (v1 + 9) (x22 + 1)).bind fun h23 =>
      (mm_gr 12 14 h23 t).bind fun r24 =>
      (mm_li h23 r24 (v1 + 1)).bind fun x25 =>
      mm_ci (f_Md_leftMany [.ref t, .int v1, .int x4, .int x25] h23) fun x27 h26 =>
      if x27 = 0 then
        mm_run p_Md_stepped mm_fu 135 [.ref t, .int v1, .int x4, .int x16] [.int 1] h26
      else
        mm_run p_Md_stepped mm_fu 135 [.ref t, .int v1, .int x4, .int x16] [.int 0] h26 := (mm_ga_is rfl).trans ((mm_gd_is hb).trans (e_Md_stepped_0 mm_fu t v1 h))
set_option maxRecDepth 100000 in
theorem e_Md_stepped_135 (f : Nat) (t : Nat) (v1 : Int32) (v2 : Int32) (v4 : Int32) (s0 : Int32) (h : mm_H) : mm_run p_Md_stepped (f + 1) 135 [.ref t, .int v1, .int v2, .int v4] [.int s0] h =
  if s0 = 0 then
    (mm_gr 12 14 h t).bind fun r1 =>
    (mm_li h r1 (v1 + 8)).bind fun x2 =>
    (mm_gi 12 16 h t).bind fun x3 =>
    if x2 < x3 then
      if s0 = 0 then
        some (some (.int v4), h)
      else
        mm_cv (f_Md_carries [.ref t, .int v1] h) fun h4 =>
        mm_cv (f_Md_comes [.ref t, .int v1, .int (v2 + 1)] h4) fun h5 =>
        some (some (.int v4), h5)
    else
      mm_cv (f_Md_records [.ref t, .int v1] h) fun h6 =>
      if s0 = 0 then
        some (some (.int v4), h6)
      else
        mm_cv (f_Md_carries [.ref t, .int v1] h6) fun h7 =>
        mm_cv (f_Md_comes [.ref t, .int v1, .int (v2 + 1)] h7) fun h8 =>
        some (some (.int v4), h8)
  else
    mm_cv (f_Md_records [.ref t, .int v1] h) fun h9 =>
    if s0 = 0 then
      some (some (.int v4), h9)
    else
      mm_cv (f_Md_carries [.ref t, .int v1] h9) fun h10 =>
      mm_cv (f_Md_comes [.ref t, .int v1, .int (v2 + 1)] h10) fun h11 =>
      some (some (.int v4), h11) := rfl
set_option maxRecDepth 100000 in
theorem i_Md_stepped (l : Launch) : mm_Imp l yX12_stepped cX12_stepped 6 (some .int) 9 f_Md_stepped := mm_imp l (P := p_Md_stepped) mm_cls_ok mm_sys_ok (by decide) (mm_Pok_of (List.forall_mem_cons.mpr ⟨k_X12_123, (List.forall_mem_cons.mpr ⟨k_X12_402, (fun _ h => absurd h List.not_mem_nil)⟩)⟩) (List.forall_mem_cons.mpr ⟨v_Md_goesOut l q_2127 (by decide), (List.forall_mem_cons.mpr ⟨v_Md_rowAt l q_2170 (by decide), (List.forall_mem_cons.mpr ⟨v_Md_leftMany l q_2194 (by decide), (List.forall_mem_cons.mpr ⟨v_Md_comes l q_2190 (by decide), (List.forall_mem_cons.mpr ⟨v_Md_isGoing l q_2225 (by decide), (List.forall_mem_cons.mpr ⟨v_Md_ends l q_2229 (by decide), (List.forall_mem_cons.mpr ⟨v_Md_leftAt l q_2233 (by decide), (List.forall_mem_cons.mpr ⟨v_Md_records l q_2241 (by decide), (List.forall_mem_cons.mpr ⟨v_Md_carries l q_2245 (by decide), (fun _ h => absurd h List.not_mem_nil)⟩)⟩)⟩)⟩)⟩)⟩)⟩)⟩)⟩) (fun _ h => absurd h List.not_mem_nil) (fun _ h => absurd h List.not_mem_nil)) (by decide +kernel) rfl (cats := [1, 1]) (fun as h r e => ⟨(mm_ga_inv e).1, (mm_gd_inv (mm_ga_inv e).2).1⟩) rfl (by decide)
theorem v_Md_stepped (l : Launch) {own : String} {i n0 : Nat} (hl : Cond.methodLink own i yX12_stepped ∈ mm_tbl) (hn : 10 ≤ n0) : mm_cok l own n0 i (0, 1, 1, f_Md_stepped) := Or.inr (Or.inr ⟨rfl, yX12_stepped, cX12_stepped, 6, (some .int), 9, 12, TX12, 27, i_Md_stepped l, hn, by decide, by decide +kernel, rfl, fun _ _ _ e => (mm_gd_inv (mm_ga_inv e).2).2, hl, q_2223, q_134, q_179, q_2224⟩)
def p_Md_stopped : mm_P := ([(0, .aload_n 0, 1, 0), (1, .iload_n 1, 1, 0), (2, .invokevirtual 393, 3, 0), (5, .ifCond .eq 27, 3, 0), (8, .aload_n 0, 1, 0), (9, .getfield 123, 3, 0), (12, .iload_n 1, 1, 0), (13, .bipush 10, 2, 10), (15, .iadd, 1, 0), (16, .iaload, 1, 0), (17, .ifCond .gt 15, 3, 0), (20, .aload_n 0, 1, 0), (21, .getfield 123, 3, 0), (24, .iload_n 1, 1, 0), (25, .bipush 8, 2, 8), (27, .iadd, 1, 0), (28, .iaload, 1, 0), (29, .ifCond .le 5, 3, 0), (32, .iconst 0, 1, 0), (33, .ireturn, 1, 0), (34, .iconst 0, 1, 0), (35, .istore_n 2, 1, 0), (36, .iload_n 2, 1, 0), (37, .aload_n 0, 1, 0), (38, .invokevirtual 268, 3, 0), (41, .if_icmp .ge 97, 3, 0), (44, .iconst 0, 1, 0), (45, .istore_n 3, 1, 0), (46, .iload_n 3, 1, 0), (47, .bipush 30, 2, 30), (49, .if_icmp .ge 83, 3, 0), (52, .aload_n 0, 1, 0), (53, .getfield 123, 3, 0), (56, .iload_n 1, 1, 0), (57, .iconst 0, 1, 0), (58, .iadd, 1, 0), (59, .iaload, 1, 0), (60, .iload_n 3, 1, 0), (61, .invokestatic 282, 3, 0), (64, .ifCond .eq 16, 3, 0), (67, .aload_n 0, 1, 0), (68, .iload_n 2, 1, 0), (69, .invokevirtual 299, 3, 0), (72, .iconst 2, 1, 2), (73, .if_icmp .ne 7, 3, 0), (76, .iconst 1, 1, 1), (77, .goto 4, 3, 0), (80, .iconst 0, 1, 0), (81, .istore 4, 2, 0), (83, .iload 4, 2, 0), (85, .ifCond .eq 41, 3, 0), (88, .aload_n 0, 1, 0), (89, .iload_n 1, 1, 0), (90, .aload_n 0, 1, 0), (91, .getfield 123, 3, 0), (94, .iload_n 1, 1, 0), (95, .iconst 0, 1, 0), (96, .iadd, 1, 0), (97, .iaload, 1, 0), (98, .aload_n 0, 1, 0), (99, .iload_n 2, 1, 0), (100, .invokevirtual 411, 3, 0), (103, .aload_n 0, 1, 0), (104, .iload_n 1, 1, 0), (105, .iload_n 3, 1, 0), (106, .aload_n 0, 1, 0), (107, .iload_n 2, 1, 0), (108, .invokevirtual 411, 3, 0), (111, .invokevirtual 286, 3, 0), (114, .invokevirtual 289, 3, 0), (117, .invokestatic 380, 3, 0), (120, .iconst 1, 1, 1), (121, .if_icmp .le 5, 3, 0), (124, .iconst 0, 1, 0), (125, .ireturn, 1, 0), (126, .iinc 3 1, 3, 1), (129, .goto (-83), 3, 0), (132, .iinc 2 1, 3, 1), (135, .goto (-99), 3, 0), (138, .aload_n 0, 1, 0), (139, .getfield 123, 3, 0), (142, .iload_n 1, 1, 0), (143, .bipush 6, 2, 6), (145, .iadd, 1, 0), (146, .iaload, 1, 0), (147, .iconst 4, 1, 4), (148, .if_icmp .eq 8, 3, 0), (151, .aload_n 0, 1, 0), (152, .iload_n 1, 1, 0), (153, .invokevirtual 408, 3, 0), (156, .aload_n 0, 1, 0), (157, .iload_n 1, 1, 0), (158, .invokevirtual 396, 3, 0), (161, .iconst 0, 1, 0), (162, .istore_n 2, 1, 0), (163, .iload_n 2, 1, 0), (164, .aload_n 0, 1, 0), (165, .getfield 123, 3, 0), (168, .iload_n 1, 1, 0), (169, .iconst 4, 1, 4), (170, .iadd, 1, 0), (171, .iaload, 1, 0), (172, .if_icmp .ge 88, 3, 0), (175, .aload_n 0, 1, 0), (176, .getfield 123, 3, 0), (179, .iload_n 1, 1, 0), (180, .bipush 43, 2, 43), (182, .iadd, 1, 0), (183, .iload_n 2, 1, 0), (184, .iadd, 1, 0), (185, .iaload, 1, 0), (186, .iconst 1, 1, 1), (187, .if_icmp .ne 23, 3, 0), (190, .aload_n 0, 1, 0), (191, .getfield 123, 3, 0), (194, .iload_n 1, 1, 0), (195, .bipush 55, 2, 55), (197, .iadd, 1, 0), (198, .iload_n 2, 1, 0), (199, .iadd, 1, 0), (200, .iaload, 1, 0), (201, .bipush (-2), 2, (-2)), (203, .if_icmp .ne 7, 3, 0), (206, .iconst 1, 1, 1), (207, .goto 4, 3, 0), (210, .iconst 0, 1, 0), (211, .istore_n 3, 1, 0), (212, .aload_n 0, 1, 0), (213, .getfield 123, 3, 0), (216, .iload_n 1, 1, 0), (217, .bipush 67, 2, 67), (219, .iadd, 1, 0), (220, .iload_n 2, 1, 0), (221, .iadd, 1, 0), (222, .iaload, 1, 0), (223, .bipush (-3), 2, (-3)), (225, .if_icmp .eq 29, 3, 0), (228, .iload_n 3, 1, 0), (229, .ifCond .ne 25, 3, 0), (232, .aload_n 0, 1, 0), (233, .getfield 123, 3, 0), (236, .iload_n 1, 1, 0), (237, .bipush 55, 2, 55), (239, .iadd, 1, 0), (240, .iload_n 2, 1, 0), (241, .iadd, 1, 0), (242, .aload_n 0, 1, 0), (243, .getfield 123, 3, 0), (246, .iload_n 1, 1, 0), (247, .bipush 67, 2, 67), (249, .iadd, 1, 0), (250, .iload_n 2, 1, 0), (251, .iadd, 1, 0), (252, .iaload, 1, 0), (253, .iastore, 1, 0), (254, .iinc 2 1, 3, 1), (257, .goto (-94), 3, 0), (260, .iconst 1, 1, 1), (261, .ireturn, 1, 0)], [(123, 12, 14, 4)], [(268, 0, 0, 1, f_Md_indexes), (282, 1, 2, 1, f_Md_has), (286, 0, 3, 1, f_Md_valueOf), (289, 0, 4, 1, f_Md_having), (299, 0, 1, 1, f_Md_kindOf), (380, 1, 1, 1, f_Md_manyOf), (393, 0, 1, 1, f_Md_isGoing), (396, 0, 1, 0, f_Md_ends), (408, 0, 1, 0, f_Md_carries), (411, 0, 1, 1, f_Md_columnAt)], [], [], [(0, [0, 1]), (36, [0, 1, 2]), (46, [0, 1, 2, 3]), (81, [0, 1, 2, 3]), (163, [0, 1, 2])], [], 1)
def f_Md_stopped : mm_F := fun args h => mm_ga [1, 1] args (mm_gd 12 args h (mm_run p_Md_stopped (mm_fu + 1) 0 args [] h))
set_option maxRecDepth 100000 in
theorem e_Md_stopped_0 (f : Nat) (t : Nat) (v1 : Int32) (h : mm_H) : mm_run p_Md_stopped (f + 1) 0 [.ref t, .int v1] [] h =
  mm_ci (f_Md_isGoing [.ref t, .int v1] h) fun x2 h1 =>
  if x2 = 0 then
    some (some (.int 0), h1)
  else
    (mm_gr 12 14 h1 t).bind fun r3 =>
    (mm_li h1 r3 (v1 + 10)).bind fun x4 =>
    if (0 : Int32) < x4 then
      some (some (.int 0), h1)
    else
      (mm_gr 12 14 h1 t).bind fun r5 =>
      (mm_li h1 r5 (v1 + 8)).bind fun x6 =>
      if (0 : Int32) < x6 then
        some (some (.int 0), h1)
      else
        mm_run p_Md_stopped f 36 [.ref t, .int v1, .int 0] [] h1 := rfl
theorem e_Md_stopped (t : Nat) (v1 : Int32) (h : mm_H) {fs : List Value} (hb : h t = some (.inr (12, fs))) : f_Md_stopped [.ref t, .int v1] h =
  mm_ci (f_Md_isGoing [.ref t, .int v1] h) fun x2 h1 =>
  if x2 = 0 then
    some (some (.int 0), h1)
  else
    (mm_gr 12 14 h1 t).bind fun r3 =>
    (mm_li h1 r3 (v1 + 10)).bind fun x4 =>
    if (0 : Int32) < x4 then
      some (some (.int 0), h1)
    else
      (mm_gr 12 14 h1 t).bind fun r5 =>
      (mm_li h1 r5 (v1 + 8)).bind fun x6 =>
      if (0 : Int32) < x6 then
        some (some (.int 0), h1)
      else
        mm_run p_Md_stopped mm_fu 36 [.ref t, .int v1, .int 0] [] h1 := (mm_ga_is rfl).trans ((mm_gd_is hb).trans (e_Md_stopped_0 mm_fu t v1 h))
set_option maxRecDepth 100000 in
theorem e_Md_stopped_36 (f : Nat) (t : Nat) (v1 : Int32) (v2 : Int32) (h : mm_H) : mm_run p_Md_stopped (f + 1) 36 [.ref t, .int v1, .int v2] [] h =
  mm_ci (f_Md_indexes [.ref t] h) fun x2 h1 =>
  if v2 < x2 then
    mm_run p_Md_stopped f 46 [.ref t, .int v1, .int v2, .int 0] [] h1
  else
    (mm_gr 12 14 h1 t).bind fun r3 =>
    (mm_li h1 r3 (v1 + 6)).bind fun x4 =>
    if x4 = 4 then
      mm_cv (f_Md_ends [.ref t, .int v1] h1) fun h5 =>
      mm_run p_Md_stopped f 163 [.ref t, .int v1, .int 0] [] h5
    else
      mm_cv (f_Md_carries [.ref t, .int v1] h1) fun h6 =>
      mm_cv (f_Md_ends [.ref t, .int v1] h6) fun h7 =>
      mm_run p_Md_stopped f 163 [.ref t, .int v1, .int 0] [] h7 := rfl
set_option maxRecDepth 100000 in
theorem e_Md_stopped_46 (f : Nat) (t : Nat) (v1 : Int32) (v2 : Int32) (v3 : Int32) (h : mm_H) : mm_run p_Md_stopped (f + 1) 46 [.ref t, .int v1, .int v2, .int v3] [] h =
  if v3 < 30 then
    (mm_gr 12 14 h t).bind fun r1 =>
    (mm_li h r1 (v1 + 0)).bind fun x2 =>
    mm_ci (f_Md_has [.int x2, .int v3] h) fun x4 h3 =>
    if x4 = 0 then
      mm_run p_Md_stopped f 81 [.ref t, .int v1, .int v2, .int v3] [.int 0] h3
    else
      mm_ci (f_Md_kindOf [.ref t, .int v2] h3) fun x6 h5 =>
      if x6 = 2 then
        mm_run p_Md_stopped f 81 [.ref t, .int v1, .int v2, .int v3] [.int 1] h5
      else
        mm_run p_Md_stopped f 81 [.ref t, .int v1, .int v2, .int v3] [.int 0] h5
  else
    mm_run p_Md_stopped f 36 [.ref t, .int v1, .int (v2 + 1)] [] h := rfl
set_option maxRecDepth 100000 in
theorem e_Md_stopped_163 (f : Nat) (t : Nat) (v1 : Int32) (v2 : Int32) (h : mm_H) : mm_run p_Md_stopped (f + 1) 163 [.ref t, .int v1, .int v2] [] h =
  (mm_gr 12 14 h t).bind fun r1 =>
  (mm_li h r1 (v1 + 4)).bind fun x2 =>
  if v2 < x2 then
    (mm_gr 12 14 h t).bind fun r3 =>
    (mm_li h r3 ((v1 + 43) + v2)).bind fun x4 =>
    if x4 = 1 then
      (mm_gr 12 14 h t).bind fun r5 =>
      (mm_li h r5 ((v1 + 55) + v2)).bind fun x6 =>
      if x6 = (-2) then
        (mm_gr 12 14 h t).bind fun r7 =>
        (mm_li h r7 ((v1 + 67) + v2)).bind fun x8 =>
        if x8 = (-3) then
          mm_run p_Md_stopped f 163 [.ref t, .int v1, .int (v2 + 1)] [] h
        else
          mm_run p_Md_stopped f 163 [.ref t, .int v1, .int (v2 + 1)] [] h
      else
        (mm_gr 12 14 h t).bind fun r9 =>
        (mm_li h r9 ((v1 + 67) + v2)).bind fun x10 =>
        if x10 = (-3) then
          mm_run p_Md_stopped f 163 [.ref t, .int v1, .int (v2 + 1)] [] h
        else
          (mm_gr 12 14 h t).bind fun r11 =>
          (mm_gr 12 14 h t).bind fun r12 =>
          (mm_li h r12 ((v1 + 67) + v2)).bind fun x13 =>
          (mm_si h r11 ((v1 + 55) + v2) x13).bind fun h14 =>
          mm_run p_Md_stopped f 163 [.ref t, .int v1, .int (v2 + 1)] [] h14
    else
      (mm_gr 12 14 h t).bind fun r15 =>
      (mm_li h r15 ((v1 + 67) + v2)).bind fun x16 =>
      if x16 = (-3) then
        mm_run p_Md_stopped f 163 [.ref t, .int v1, .int (v2 + 1)] [] h
      else
        (mm_gr 12 14 h t).bind fun r17 =>
        (mm_gr 12 14 h t).bind fun r18 =>
        (mm_li h r18 ((v1 + 67) + v2)).bind fun x19 =>
        (mm_si h r17 ((v1 + 55) + v2) x19).bind fun h20 =>
        mm_run p_Md_stopped f 163 [.ref t, .int v1, .int (v2 + 1)] [] h20
  else
    some (some (.int 1), h) := rfl
set_option maxRecDepth 100000 in
theorem e_Md_stopped_81 (f : Nat) (t : Nat) (v1 : Int32) (v2 : Int32) (v3 : Int32) (s0 : Int32) (h : mm_H) : mm_run p_Md_stopped (f + 1) 81 [.ref t, .int v1, .int v2, .int v3] [.int s0] h =
  if s0 = 0 then
    mm_run p_Md_stopped f 46 [.ref t, .int v1, .int v2, .int (v3 + 1)] [] h
  else
    (mm_gr 12 14 h t).bind fun r1 =>
    (mm_li h r1 (v1 + 0)).bind fun x2 =>
    mm_ci (f_Md_columnAt [.ref t, .int v2] h) fun x4 h3 =>
    mm_ci (f_Md_columnAt [.ref t, .int v2] h3) fun x6 h5 =>
    mm_ci (f_Md_valueOf [.ref t, .int v1, .int v3, .int x6] h5) fun x8 h7 =>
    mm_ci (f_Md_having [.ref t, .int v1, .int x2, .int x4, .int x8] h7) fun x10 h9 =>
    mm_ci (f_Md_manyOf [.int x10] h9) fun x12 h11 =>
    if (1 : Int32) < x12 then
      some (some (.int 0), h11)
    else
      mm_run p_Md_stopped f 46 [.ref t, .int v1, .int v2, .int (v3 + 1)] [] h11 := rfl
set_option maxRecDepth 100000 in
theorem i_Md_stopped (l : Launch) : mm_Imp l yX12_stopped cX12_stopped 5 (some .boolean) 7 f_Md_stopped := mm_imp l (P := p_Md_stopped) mm_cls_ok mm_sys_ok (by decide) (mm_Pok_of (List.forall_mem_cons.mpr ⟨k_X12_123, (fun _ h => absurd h List.not_mem_nil)⟩) (List.forall_mem_cons.mpr ⟨v_Md_indexes l q_1741 (by decide), (List.forall_mem_cons.mpr ⟨v_Md_has l (Or.inl q_1780) (by decide), (List.forall_mem_cons.mpr ⟨v_Md_valueOf l q_1761 (by decide), (List.forall_mem_cons.mpr ⟨v_Md_having l q_1776 (by decide), (List.forall_mem_cons.mpr ⟨v_Md_kindOf l q_1749 (by decide), (List.forall_mem_cons.mpr ⟨v_Md_manyOf l (Or.inl q_2214) (by decide), (List.forall_mem_cons.mpr ⟨v_Md_isGoing l q_2225 (by decide), (List.forall_mem_cons.mpr ⟨v_Md_ends l q_2229 (by decide), (List.forall_mem_cons.mpr ⟨v_Md_carries l q_2245 (by decide), (List.forall_mem_cons.mpr ⟨v_Md_columnAt l q_1787 (by decide), (fun _ h => absurd h List.not_mem_nil)⟩)⟩)⟩)⟩)⟩)⟩)⟩)⟩)⟩)⟩) (fun _ h => absurd h List.not_mem_nil) (fun _ h => absurd h List.not_mem_nil)) (by decide +kernel) rfl (cats := [1, 1]) (fun as h r e => ⟨(mm_ga_inv e).1, (mm_gd_inv (mm_ga_inv e).2).1⟩) rfl (by decide)
theorem v_Md_stopped (l : Launch) {own : String} {i n0 : Nat} (hl : Cond.methodLink own i yX12_stopped ∈ mm_tbl) (hn : 8 ≤ n0) : mm_cok l own n0 i (0, 1, 1, f_Md_stopped) := Or.inr (Or.inr ⟨rfl, yX12_stopped, cX12_stopped, 5, (some .boolean), 7, 12, TX12, 27, i_Md_stopped l, hn, by decide, by decide +kernel, rfl, fun _ _ _ e => (mm_gd_inv (mm_ga_inv e).2).2, hl, q_2255, q_141, q_179, q_2256⟩)
def p_Md_crashed : mm_P := ([(0, .aload_n 0, 1, 0), (1, .iload_n 1, 1, 0), (2, .invokevirtual 393, 3, 0), (5, .ifCond .ne 5, 3, 0), (8, .iconst (-1), 1, (-1)), (9, .ireturn, 1, 0), (10, .aload_n 0, 1, 0), (11, .getfield 123, 3, 0), (14, .iload_n 1, 1, 0), (15, .bipush 8, 2, 8), (17, .iadd, 1, 0), (18, .iaload, 1, 0), (19, .istore_n 2, 1, 0), (20, .aload_n 0, 1, 0), (21, .getfield 123, 3, 0), (24, .iload_n 1, 1, 0), (25, .bipush 6, 2, 6), (27, .iadd, 1, 0), (28, .iaload, 1, 0), (29, .istore_n 3, 1, 0), (30, .iload_n 3, 1, 0), (31, .iconst 4, 1, 4), (32, .if_icmp .eq 20, 3, 0), (35, .aload_n 0, 1, 0), (36, .iload_n 1, 1, 0), (37, .sipush 483, 3, 483), (40, .iadd, 1, 0), (41, .aload_n 0, 1, 0), (42, .iload_n 1, 1, 0), (43, .iload_n 3, 1, 0), (44, .invokevirtual 305, 3, 0), (47, .bipush 31, 2, 31), (49, .invokevirtual 362, 3, 0), (52, .aload_n 0, 1, 0), (53, .getfield 123, 3, 0), (56, .iload_n 1, 1, 0), (57, .bipush 9, 2, 9), (59, .iadd, 1, 0), (60, .dup2, 1, 0), (61, .iaload, 1, 0), (62, .iload_n 2, 1, 0), (63, .isub, 1, 0), (64, .iastore, 1, 0), (65, .aload_n 0, 1, 0), (66, .getfield 123, 3, 0), (69, .iload_n 1, 1, 0), (70, .bipush 8, 2, 8), (72, .iadd, 1, 0), (73, .iconst 0, 1, 0), (74, .iastore, 1, 0), (75, .aload_n 0, 1, 0), (76, .getfield 123, 3, 0), (79, .iload_n 1, 1, 0), (80, .bipush 11, 2, 11), (82, .iadd, 1, 0), (83, .iconst 1, 1, 1), (84, .iastore, 1, 0), (85, .iload_n 2, 1, 0), (86, .ireturn, 1, 0)], [(123, 12, 14, 4)], [(305, 0, 2, 1, f_Md_startOf), (362, 0, 3, 0, f_Md_copies), (393, 0, 1, 1, f_Md_isGoing)], [], [], [(0, [0, 1])], [], 2)
def f_Md_crashed : mm_F := fun args h => mm_ga [1, 1] args (mm_gd 12 args h (mm_run p_Md_crashed (mm_fu + 1) 0 args [] h))
set_option maxRecDepth 100000 in
theorem e_Md_crashed_0 (f : Nat) (t : Nat) (v1 : Int32) (h : mm_H) : mm_run p_Md_crashed (f + 1) 0 [.ref t, .int v1] [] h =
  mm_ci (f_Md_isGoing [.ref t, .int v1] h) fun x2 h1 =>
  if x2 = 0 then
    some (some (.int (-1)), h1)
  else
    (mm_gr 12 14 h1 t).bind fun r3 =>
    (mm_li h1 r3 (v1 + 8)).bind fun x4 =>
    (mm_gr 12 14 h1 t).bind fun r5 =>
    (mm_li h1 r5 (v1 + 6)).bind fun x6 =>
    if x6 = 4 then
      (mm_gr 12 14 h1 t).bind fun r7 =>
      (mm_li h1 r7 (v1 + 9)).bind fun x8 =>
      (mm_si h1 r7 (v1 + 9) (x8 - x4)).bind fun h9 =>
      (mm_gr 12 14 h9 t).bind fun r10 =>
      (mm_si h9 r10 (v1 + 8) 0).bind fun h11 =>
      (mm_gr 12 14 h11 t).bind fun r12 =>
      (mm_si h11 r12 (v1 + 11) 1).bind fun h13 =>
      some (some (.int x4), h13)
    else
      mm_ci (f_Md_startOf [.ref t, .int v1, .int x6] h1) fun x15 h14 =>
      mm_cv (f_Md_copies [.ref t, .int (v1 + 483), .int x15, .int 31] h14) fun h16 =>
      (mm_gr 12 14 h16 t).bind fun r17 =>
      (mm_li h16 r17 (v1 + 9)).bind fun x18 =>
      (mm_si h16 r17 (v1 + 9) (x18 - x4)).bind fun h19 =>
      (mm_gr 12 14 h19 t).bind fun r20 =>
      (mm_si h19 r20 (v1 + 8) 0).bind fun h21 =>
      (mm_gr 12 14 h21 t).bind fun r22 =>
      (mm_si h21 r22 (v1 + 11) 1).bind fun h23 =>
      some (some (.int x4), h23) := rfl
theorem e_Md_crashed (t : Nat) (v1 : Int32) (h : mm_H) {fs : List Value} (hb : h t = some (.inr (12, fs))) : f_Md_crashed [.ref t, .int v1] h =
  mm_ci (f_Md_isGoing [.ref t, .int v1] h) fun x2 h1 =>
  if x2 = 0 then
    some (some (.int (-1)), h1)
  else
    (mm_gr 12 14 h1 t).bind fun r3 =>
    (mm_li h1 r3 (v1 + 8)).bind fun x4 =>
    (mm_gr 12 14 h1 t).bind fun r5 =>
    (mm_li h1 r5 (v1 + 6)).bind fun x6 =>
    if x6 = 4 then
      (mm_gr 12 14 h1 t).bind fun r7 =>
      (mm_li h1 r7 (v1 + 9)).bind fun x8 =>
      (mm_si h1 r7 (v1 + 9) (x8 - x4)).bind fun h9 =>
      (mm_gr 12 14 h9 t).bind fun r10 =>
      (mm_si h9 r10 (v1 + 8) 0).bind fun h11 =>
      (mm_gr 12 14 h11 t).bind fun r12 =>
      (mm_si h11 r12 (v1 + 11) 1).bind fun h13 =>
      some (some (.int x4), h13)
    else
      mm_ci (f_Md_startOf [.ref t, .int v1, .int x6] h1) fun x15 h14 =>
      mm_cv (f_Md_copies [.ref t, .int (v1 + 483), .int x15, .int 31] h14) fun h16 =>
      (mm_gr 12 14 h16 t).bind fun r17 =>
      (mm_li h16 r17 (v1 + 9)).bind fun x18 =>
      (mm_si h16 r17 (v1 + 9) (x18 - x4)).bind fun h19 =>
      (mm_gr 12 14 h19 t).bind fun r20 =>
      (mm_si h19 r20 (v1 + 8) 0).bind fun h21 =>
      (mm_gr 12 14 h21 t).bind fun r22 =>
      (mm_si h21 r22 (v1 + 11) 1).bind fun h23 =>
      some (some (.int x4), h23) := (mm_ga_is rfl).trans ((mm_gd_is hb).trans (e_Md_crashed_0 mm_fu t v1 h))
set_option maxRecDepth 100000 in
theorem i_Md_crashed (l : Launch) : mm_Imp l yX12_crashed cX12_crashed 4 (some .int) 2 f_Md_crashed := mm_imp l (P := p_Md_crashed) mm_cls_ok mm_sys_ok (by decide) (mm_Pok_of (List.forall_mem_cons.mpr ⟨k_X12_123, (fun _ h => absurd h List.not_mem_nil)⟩) (List.forall_mem_cons.mpr ⟨v_Md_startOf l q_1811 (by decide), (List.forall_mem_cons.mpr ⟨v_Md_copies l q_2059 (by decide), (List.forall_mem_cons.mpr ⟨v_Md_isGoing l q_2225 (by decide), (fun _ h => absurd h List.not_mem_nil)⟩)⟩)⟩) (fun _ h => absurd h List.not_mem_nil) (fun _ h => absurd h List.not_mem_nil)) (by decide +kernel) rfl (cats := [1, 1]) (fun as h r e => ⟨(mm_ga_inv e).1, (mm_gd_inv (mm_ga_inv e).2).1⟩) rfl (by decide)
theorem v_Md_crashed (l : Launch) {own : String} {i n0 : Nat} (hl : Cond.methodLink own i yX12_crashed ∈ mm_tbl) (hn : 3 ≤ n0) : mm_cok l own n0 i (0, 1, 1, f_Md_crashed) := Or.inr (Or.inr ⟨rfl, yX12_crashed, cX12_crashed, 4, (some .int), 2, 12, TX12, 27, i_Md_crashed l, hn, by decide, by decide +kernel, rfl, fun _ _ _ e => (mm_gd_inv (mm_ga_inv e).2).2, hl, q_2263, q_142, q_179, q_2264⟩)
def p_Md_resumed : mm_P := ([(0, .aload_n 0, 1, 0), (1, .getfield 123, 3, 0), (4, .iload_n 1, 1, 0), (5, .iconst 5, 1, 5), (6, .iadd, 1, 0), (7, .iaload, 1, 0), (8, .ifCond .eq 15, 3, 0), (11, .aload_n 0, 1, 0), (12, .getfield 123, 3, 0), (15, .iload_n 1, 1, 0), (16, .bipush 11, 2, 11), (18, .iadd, 1, 0), (19, .iaload, 1, 0), (20, .ifCond .ne 5, 3, 0), (23, .iconst (-1), 1, (-1)), (24, .ireturn, 1, 0), (25, .aload_n 0, 1, 0), (26, .getfield 123, 3, 0), (29, .iload_n 1, 1, 0), (30, .bipush 11, 2, 11), (32, .iadd, 1, 0), (33, .iconst 0, 1, 0), (34, .iastore, 1, 0), (35, .aload_n 0, 1, 0), (36, .getfield 123, 3, 0), (39, .iload_n 1, 1, 0), (40, .bipush 6, 2, 6), (42, .iadd, 1, 0), (43, .iaload, 1, 0), (44, .istore_n 2, 1, 0), (45, .iload_n 2, 1, 0), (46, .iconst 4, 1, 4), (47, .if_icmp .ne 5, 3, 0), (50, .iconst 0, 1, 0), (51, .ireturn, 1, 0), (52, .aload_n 0, 1, 0), (53, .getfield 123, 3, 0), (56, .iload_n 1, 1, 0), (57, .iconst 1, 1, 1), (58, .iadd, 1, 0), (59, .iaload, 1, 0), (60, .istore_n 3, 1, 0), (61, .aload_n 0, 1, 0), (62, .getfield 123, 3, 0), (65, .iload_n 1, 1, 0), (66, .iconst 3, 1, 3), (67, .iadd, 1, 0), (68, .dup2, 1, 0), (69, .iaload, 1, 0), (70, .aload_n 0, 1, 0), (71, .getfield 123, 3, 0), (74, .iload_n 1, 1, 0), (75, .bipush 7, 2, 7), (77, .iadd, 1, 0), (78, .iaload, 1, 0), (79, .ifCond .ne 13, 3, 0), (82, .aload_n 0, 1, 0), (83, .iload_n 1, 1, 0), (84, .iload_n 2, 1, 0), (85, .iload_n 3, 1, 0), (86, .invokevirtual 350, 3, 0), (89, .goto 10, 3, 0), (92, .aload_n 0, 1, 0), (93, .iload_n 1, 1, 0), (94, .iload_n 2, 1, 0), (95, .iload_n 3, 1, 0), (96, .invokevirtual 353, 3, 0), (99, .iadd, 1, 0), (100, .iastore, 1, 0), (101, .aload_n 0, 1, 0), (102, .iload_n 1, 1, 0), (103, .iload_n 2, 1, 0), (104, .iload_n 3, 1, 0), (105, .invokevirtual 347, 3, 0), (108, .ireturn, 1, 0)], [(123, 12, 14, 4)], [(347, 0, 3, 1, f_Md_leftMany), (350, 0, 3, 1, f_Md_passCost), (353, 0, 3, 1, f_Md_probeCost)], [], [], [(0, [0, 1])], [], 2)
def f_Md_resumed : mm_F := fun args h => mm_ga [1, 1] args (mm_gd 12 args h (mm_run p_Md_resumed (mm_fu + 1) 0 args [] h))
set_option maxRecDepth 100000 in
theorem e_Md_resumed_0 (f : Nat) (t : Nat) (v1 : Int32) (h : mm_H) : mm_run p_Md_resumed (f + 1) 0 [.ref t, .int v1] [] h =
  (mm_gr 12 14 h t).bind fun r1 =>
  (mm_li h r1 (v1 + 5)).bind fun x2 =>
  if x2 = 0 then
    some (some (.int (-1)), h)
  else
    (mm_gr 12 14 h t).bind fun r3 =>
    (mm_li h r3 (v1 + 11)).bind fun x4 =>
    if x4 = 0 then
      some (some (.int (-1)), h)
    else
      (mm_gr 12 14 h t).bind fun r5 =>
      (mm_si h r5 (v1 + 11) 0).bind fun h6 =>
      (mm_gr 12 14 h6 t).bind fun r7 =>
      (mm_li h6 r7 (v1 + 6)).bind fun x8 =>
      if x8 = 4 then
        some (some (.int 0), h6)
      else
        (mm_gr 12 14 h6 t).bind fun r9 =>
        (mm_li h6 r9 (v1 + 1)).bind fun x10 =>
        (mm_gr 12 14 h6 t).bind fun r11 =>
        (mm_li h6 r11 (v1 + 3)).bind fun x12 =>
        (mm_gr 12 14 h6 t).bind fun r13 =>
        (mm_li h6 r13 (v1 + 7)).bind fun x14 =>
        if x14 = 0 then
          mm_ci (f_Md_passCost [.ref t, .int v1, .int x8, .int x10] h6) fun x16 h15 =>
          (mm_si h15 r11 (v1 + 3) (x12 + x16)).bind fun h17 =>
          mm_ci (f_Md_leftMany [.ref t, .int v1, .int x8, .int x10] h17) fun x19 h18 =>
          some (some (.int x19), h18)
        else
          mm_ci (f_Md_probeCost [.ref t, .int v1, .int x8, .int x10] h6) fun x21 h20 =>
          (mm_si h20 r11 (v1 + 3) (x12 + x21)).bind fun h22 =>
          mm_ci (f_Md_leftMany [.ref t, .int v1, .int x8, .int x10] h22) fun x24 h23 =>
          some (some (.int x24), h23) := rfl
theorem e_Md_resumed (t : Nat) (v1 : Int32) (h : mm_H) {fs : List Value} (hb : h t = some (.inr (12, fs))) : f_Md_resumed [.ref t, .int v1] h =
  (mm_gr 12 14 h t).bind fun r1 =>
  (mm_li h r1 (v1 + 5)).bind fun x2 =>
  if x2 = 0 then
    some (some (.int (-1)), h)
  else
    (mm_gr 12 14 h t).bind fun r3 =>
    (mm_li h r3 (v1 + 11)).bind fun x4 =>
    if x4 = 0 then
      some (some (.int (-1)), h)
    else
      (mm_gr 12 14 h t).bind fun r5 =>
      (mm_si h r5 (v1 + 11) 0).bind fun h6 =>
      (mm_gr 12 14 h6 t).bind fun r7 =>
      (mm_li h6 r7 (v1 + 6)).bind fun x8 =>
      if x8 = 4 then
        some (some (.int 0), h6)
      else
        (mm_gr 12 14 h6 t).bind fun r9 =>
        (mm_li h6 r9 (v1 + 1)).bind fun x10 =>
        (mm_gr 12 14 h6 t).bind fun r11 =>
        (mm_li h6 r11 (v1 + 3)).bind fun x12 =>
        (mm_gr 12 14 h6 t).bind fun r13 =>
        (mm_li h6 r13 (v1 + 7)).bind fun x14 =>
        if x14 = 0 then
          mm_ci (f_Md_passCost [.ref t, .int v1, .int x8, .int x10] h6) fun x16 h15 =>
          (mm_si h15 r11 (v1 + 3) (x12 + x16)).bind fun h17 =>
          mm_ci (f_Md_leftMany [.ref t, .int v1, .int x8, .int x10] h17) fun x19 h18 =>
          some (some (.int x19), h18)
        else
          mm_ci (f_Md_probeCost [.ref t, .int v1, .int x8, .int x10] h6) fun x21 h20 =>
          (mm_si h20 r11 (v1 + 3) (x12 + x21)).bind fun h22 =>
          mm_ci (f_Md_leftMany [.ref t, .int v1, .int x8, .int x10] h22) fun x24 h23 =>
          some (some (.int x24), h23) := (mm_ga_is rfl).trans ((mm_gd_is hb).trans (e_Md_resumed_0 mm_fu t v1 h))
set_option maxRecDepth 100000 in
theorem i_Md_resumed (l : Launch) : mm_Imp l yX12_resumed cX12_resumed 4 (some .int) 6 f_Md_resumed := mm_imp l (P := p_Md_resumed) mm_cls_ok mm_sys_ok (by decide) (mm_Pok_of (List.forall_mem_cons.mpr ⟨k_X12_123, (fun _ h => absurd h List.not_mem_nil)⟩) (List.forall_mem_cons.mpr ⟨v_Md_leftMany l q_2194 (by decide), (List.forall_mem_cons.mpr ⟨v_Md_passCost l q_2202 (by decide), (List.forall_mem_cons.mpr ⟨v_Md_probeCost l q_2206 (by decide), (fun _ h => absurd h List.not_mem_nil)⟩)⟩)⟩) (fun _ h => absurd h List.not_mem_nil) (fun _ h => absurd h List.not_mem_nil)) (by decide +kernel) rfl (cats := [1, 1]) (fun as h r e => ⟨(mm_ga_inv e).1, (mm_gd_inv (mm_ga_inv e).2).1⟩) rfl (by decide)
theorem v_Md_resumed (l : Launch) {own : String} {i n0 : Nat} (hl : Cond.methodLink own i yX12_resumed ∈ mm_tbl) (hn : 7 ≤ n0) : mm_cok l own n0 i (0, 1, 1, f_Md_resumed) := Or.inr (Or.inr ⟨rfl, yX12_resumed, cX12_resumed, 4, (some .int), 6, 12, TX12, 27, i_Md_resumed l, hn, by decide, by decide +kernel, rfl, fun _ _ _ e => (mm_gd_inv (mm_ga_inv e).2).2, hl, q_2271, q_143, q_179, q_2272⟩)
def p_Md_isAt : mm_P := ([(0, .aload_n 0, 1, 0), (1, .getfield 123, 3, 0), (4, .iload_n 1, 1, 0), (5, .iconst 5, 1, 5), (6, .iadd, 1, 0), (7, .iaload, 1, 0), (8, .iconst 1, 1, 1), (9, .if_icmp .ne 20, 3, 0), (12, .aload_n 0, 1, 0), (13, .getfield 123, 3, 0), (16, .iload_n 1, 1, 0), (17, .bipush 6, 2, 6), (19, .iadd, 1, 0), (20, .iaload, 1, 0), (21, .iload_n 2, 1, 0), (22, .if_icmp .ne 7, 3, 0), (25, .iconst 1, 1, 1), (26, .goto 4, 3, 0), (29, .iconst 0, 1, 0), (30, .ireturn, 1, 0)], [(123, 12, 14, 4)], [], [], [], [(0, [0, 1, 2])], [], 1)
def f_Md_isAt : mm_F := fun args h => mm_ga [1, 1, 1] args (mm_gd 12 args h (mm_run p_Md_isAt (mm_fu + 1) 0 args [] h))
set_option maxRecDepth 100000 in
theorem e_Md_isAt_0 (f : Nat) (t : Nat) (v1 : Int32) (v2 : Int32) (h : mm_H) : mm_run p_Md_isAt (f + 1) 0 [.ref t, .int v1, .int v2] [] h =
  (mm_gr 12 14 h t).bind fun r1 =>
  (mm_li h r1 (v1 + 5)).bind fun x2 =>
  if x2 = 1 then
    (mm_gr 12 14 h t).bind fun r3 =>
    (mm_li h r3 (v1 + 6)).bind fun x4 =>
    if x4 = v2 then
      some (some (.int 1), h)
    else
      some (some (.int 0), h)
  else
    some (some (.int 0), h) := rfl
theorem e_Md_isAt (t : Nat) (v1 : Int32) (v2 : Int32) (h : mm_H) {fs : List Value} (hb : h t = some (.inr (12, fs))) : f_Md_isAt [.ref t, .int v1, .int v2] h =
  (mm_gr 12 14 h t).bind fun r1 =>
  (mm_li h r1 (v1 + 5)).bind fun x2 =>
  if x2 = 1 then
    (mm_gr 12 14 h t).bind fun r3 =>
    (mm_li h r3 (v1 + 6)).bind fun x4 =>
    if x4 = v2 then
      some (some (.int 1), h)
    else
      some (some (.int 0), h)
  else
    some (some (.int 0), h) := (mm_ga_is rfl).trans ((mm_gd_is hb).trans (e_Md_isAt_0 mm_fu t v1 v2 h))
set_option maxRecDepth 100000 in
theorem i_Md_isAt (l : Launch) : mm_Imp l yX12_isAt cX12_isAt 3 (some .boolean) 1 f_Md_isAt := mm_imp l (P := p_Md_isAt) mm_cls_ok mm_sys_ok (by decide) (mm_Pok_of (List.forall_mem_cons.mpr ⟨k_X12_123, (fun _ h => absurd h List.not_mem_nil)⟩) (fun _ h => absurd h List.not_mem_nil) (fun _ h => absurd h List.not_mem_nil) (fun _ h => absurd h List.not_mem_nil)) (by decide +kernel) rfl (cats := [1, 1, 1]) (fun as h r e => ⟨(mm_ga_inv e).1, (mm_gd_inv (mm_ga_inv e).2).1⟩) rfl (by decide)
theorem v_Md_isAt (l : Launch) {own : String} {i n0 : Nat} (hl : Cond.methodLink own i yX12_isAt ∈ mm_tbl) (hn : 2 ≤ n0) : mm_cok l own n0 i (0, 2, 1, f_Md_isAt) := Or.inr (Or.inr ⟨rfl, yX12_isAt, cX12_isAt, 3, (some .boolean), 1, 12, TX12, 27, i_Md_isAt l, hn, by decide, by decide +kernel, rfl, fun _ _ _ e => (mm_gd_inv (mm_ga_inv e).2).2, hl, q_2080, q_106, q_179, q_2081⟩)
def p_Md_packs : mm_P := ([(0, .aload_n 0, 1, 0), (1, .iload_n 1, 1, 0), (2, .iload_n 2, 1, 0), (3, .invokevirtual 414, 3, 0), (6, .ifCond .eq 5, 3, 0), (9, .iconst (-1), 1, (-1)), (10, .ireturn, 1, 0), (11, .aload_n 0, 1, 0), (12, .iload_n 1, 1, 0), (13, .iload_n 2, 1, 0), (14, .invokevirtual 317, 3, 0), (17, .istore_n 3, 1, 0), (18, .aload_n 0, 1, 0), (19, .getfield 123, 3, 0), (22, .iload_n 1, 1, 0), (23, .iconst 3, 1, 3), (24, .iadd, 1, 0), (25, .dup2, 1, 0), (26, .iaload, 1, 0), (27, .iload_n 3, 1, 0), (28, .iadd, 1, 0), (29, .iastore, 1, 0), (30, .aload_n 0, 1, 0), (31, .iload_n 1, 1, 0), (32, .iload_n 2, 1, 0), (33, .invokevirtual 305, 3, 0), (36, .iconst 1, 1, 1), (37, .iadd, 1, 0), (38, .istore 4, 2, 0), (40, .iconst 0, 1, 0), (41, .istore 5, 2, 0), (43, .iconst 1, 1, 1), (44, .istore 6, 2, 0), (46, .iload 6, 2, 0), (48, .aload_n 0, 1, 0), (49, .iload_n 1, 1, 0), (50, .iload_n 2, 1, 0), (51, .invokevirtual 311, 3, 0), (54, .if_icmp .ge 66, 3, 0), (57, .aload_n 0, 1, 0), (58, .iload_n 1, 1, 0), (59, .iload_n 2, 1, 0), (60, .iload 6, 2, 0), (62, .invokevirtual 314, 3, 0), (65, .ifCond .ne 6, 3, 0), (68, .goto 46, 3, 0), (71, .aload_n 0, 1, 0), (72, .iload_n 1, 1, 0), (73, .iload_n 2, 1, 0), (74, .iload 6, 2, 0), (76, .invokevirtual 335, 3, 0), (79, .aload_n 0, 1, 0), (80, .getfield 326, 3, 0), (83, .iload 5, 2, 0), (85, .isub, 1, 0), (86, .aload_n 0, 1, 0), (87, .invokevirtual 320, 3, 0), (90, .if_icmp .gt 20, 3, 0), (93, .aload_n 0, 1, 0), (94, .getfield 123, 3, 0), (97, .iload 4, 2, 0), (99, .iload 6, 2, 0), (101, .iadd, 1, 0), (102, .dup2, 1, 0), (103, .iaload, 1, 0), (104, .iconst 1, 1, 1), (105, .isub, 1, 0), (106, .iastore, 1, 0), (107, .goto 7, 3, 0), (110, .iload 6, 2, 0), (112, .istore 5, 2, 0), (114, .iinc 6 1, 3, 1), (117, .goto (-71), 3, 0), (120, .iload_n 3, 1, 0), (121, .aload_n 0, 1, 0), (122, .iload_n 1, 1, 0), (123, .iload_n 2, 1, 0), (124, .invokevirtual 317, 3, 0), (127, .isub, 1, 0), (128, .ireturn, 1, 0)], [(123, 12, 14, 4), (326, 12, 21, 0)], [(305, 0, 2, 1, f_Md_startOf), (311, 0, 2, 1, f_Md_entries), (314, 0, 3, 1, f_Md_isFirst), (317, 0, 2, 1, f_Md_leaves), (320, 0, 0, 1, f_Md_page), (335, 0, 3, 0, f_Md_leafAround), (414, 0, 2, 1, f_Md_isAt)], [], [], [(0, [0, 1, 2]), (46, [0, 1, 2, 3, 4, 5, 6])], [], 2)
def f_Md_packs : mm_F := fun args h => mm_ga [1, 1, 1] args (mm_gd 12 args h (mm_run p_Md_packs (mm_fu + 1) 0 args [] h))
set_option maxRecDepth 100000 in
theorem e_Md_packs_0 (f : Nat) (t : Nat) (v1 : Int32) (v2 : Int32) (h : mm_H) : mm_run p_Md_packs (f + 1) 0 [.ref t, .int v1, .int v2] [] h =
  mm_ci (f_Md_isAt [.ref t, .int v1, .int v2] h) fun x2 h1 =>
  if x2 = 0 then
    mm_ci (f_Md_leaves [.ref t, .int v1, .int v2] h1) fun x4 h3 =>
    (mm_gr 12 14 h3 t).bind fun r5 =>
    (mm_li h3 r5 (v1 + 3)).bind fun x6 =>
    (mm_si h3 r5 (v1 + 3) (x6 + x4)).bind fun h7 =>
    mm_ci (f_Md_startOf [.ref t, .int v1, .int v2] h7) fun x9 h8 =>
    mm_run p_Md_packs f 46 [.ref t, .int v1, .int v2, .int x4, .int (x9 + 1), .int 0, .int 1] [] h8
  else
    some (some (.int (-1)), h1) := rfl
theorem e_Md_packs (t : Nat) (v1 : Int32) (v2 : Int32) (h : mm_H) {fs : List Value} (hb : h t = some (.inr (12, fs))) : f_Md_packs [.ref t, .int v1, .int v2] h =
  mm_ci (f_Md_isAt [.ref t, .int v1, .int v2] h) fun x2 h1 =>
  if x2 = 0 then
    mm_ci (f_Md_leaves [.ref t, .int v1, .int v2] h1) fun x4 h3 =>
    (mm_gr 12 14 h3 t).bind fun r5 =>
    (mm_li h3 r5 (v1 + 3)).bind fun x6 =>
    (mm_si h3 r5 (v1 + 3) (x6 + x4)).bind fun h7 =>
    mm_ci (f_Md_startOf [.ref t, .int v1, .int v2] h7) fun x9 h8 =>
    mm_run p_Md_packs mm_fu 46 [.ref t, .int v1, .int v2, .int x4, .int (x9 + 1), .int 0, .int 1] [] h8
  else
    some (some (.int (-1)), h1) := (mm_ga_is rfl).trans ((mm_gd_is hb).trans (e_Md_packs_0 mm_fu t v1 v2 h))
set_option maxRecDepth 100000 in
theorem e_Md_packs_46 (f : Nat) (t : Nat) (v1 : Int32) (v2 : Int32) (v3 : Int32) (v4 : Int32) (v5 : Int32) (v6 : Int32) (h : mm_H) : mm_run p_Md_packs (f + 1) 46 [.ref t, .int v1, .int v2, .int v3, .int v4, .int v5, .int v6] [] h =
  mm_ci (f_Md_entries [.ref t, .int v1, .int v2] h) fun x2 h1 =>
  if v6 < x2 then
    mm_ci (f_Md_isFirst [.ref t, .int v1, .int v2, .int v6] h1) fun x4 h3 =>
    if x4 = 0 then
      mm_run p_Md_packs f 46 [.ref t, .int v1, .int v2, .int v3, .int v4, .int v5, .int (v6 + 1)] [] h3
    else
      mm_cv (f_Md_leafAround [.ref t, .int v1, .int v2, .int v6] h3) fun h5 =>
      (mm_gi 12 21 h5 t).bind fun x6 =>
      mm_ci (f_Md_page [.ref t] h5) fun x8 h7 =>
      if x8 < (x6 - v5) then
        mm_run p_Md_packs f 46 [.ref t, .int v1, .int v2, .int v3, .int v4, .int v6, .int (v6 + 1)] [] h7
      else
        (mm_gr 12 14 h7 t).bind fun r9 =>
        (mm_li h7 r9 (v4 + v6)).bind fun x10 =>
        (mm_si h7 r9 (v4 + v6) (x10 - 1)).bind fun h11 =>
        mm_run p_Md_packs f 46 [.ref t, .int v1, .int v2, .int v3, .int v4, .int v5, .int (v6 + 1)] [] h11
  else
    mm_ci (f_Md_leaves [.ref t, .int v1, .int v2] h1) fun x13 h12 =>
    some (some (.int (v3 - x13)), h12) := rfl
set_option maxRecDepth 100000 in
theorem i_Md_packs (l : Launch) : mm_Imp l yX12_packs cX12_packs 7 (some .int) 4 f_Md_packs := mm_imp l (P := p_Md_packs) mm_cls_ok mm_sys_ok (by decide) (mm_Pok_of (List.forall_mem_cons.mpr ⟨k_X12_123, (List.forall_mem_cons.mpr ⟨k_X12_326, (fun _ h => absurd h List.not_mem_nil)⟩)⟩) (List.forall_mem_cons.mpr ⟨v_Md_startOf l q_1811 (by decide), (List.forall_mem_cons.mpr ⟨v_Md_entries l q_1807 (by decide), (List.forall_mem_cons.mpr ⟨v_Md_isFirst l q_1815 (by decide), (List.forall_mem_cons.mpr ⟨v_Md_leaves l q_1803 (by decide), (List.forall_mem_cons.mpr ⟨v_Md_page l q_1819 (by decide), (List.forall_mem_cons.mpr ⟨v_Md_leafAround l q_1831 (by decide), (List.forall_mem_cons.mpr ⟨v_Md_isAt l q_2078 (by decide), (fun _ h => absurd h List.not_mem_nil)⟩)⟩)⟩)⟩)⟩)⟩)⟩) (fun _ h => absurd h List.not_mem_nil) (fun _ h => absurd h List.not_mem_nil)) (by decide +kernel) rfl (cats := [1, 1, 1]) (fun as h r e => ⟨(mm_ga_inv e).1, (mm_gd_inv (mm_ga_inv e).2).1⟩) rfl (by decide)
theorem v_Md_packs (l : Launch) {own : String} {i n0 : Nat} (hl : Cond.methodLink own i yX12_packs ∈ mm_tbl) (hn : 5 ≤ n0) : mm_cok l own n0 i (0, 2, 1, f_Md_packs) := Or.inr (Or.inr ⟨rfl, yX12_packs, cX12_packs, 7, (some .int), 4, 12, TX12, 27, i_Md_packs l, hn, by decide, by decide +kernel, rfl, fun _ _ _ e => (mm_gd_inv (mm_ga_inv e).2).2, hl, q_2279, q_144, q_179, q_2280⟩)
def p_Md_asideBy : mm_P := ([(0, .aload_n 0, 1, 0), (1, .iload_n 1, 1, 0), (2, .iload_n 2, 1, 0), (3, .invokevirtual 414, 3, 0), (6, .ifCond .eq 8, 3, 0), (9, .iload 5, 2, 0), (11, .ifCond .eq 7, 3, 0), (14, .iconst 0, 1, 0), (15, .goto 23, 3, 0), (18, .iload_n 3, 1, 0), (19, .ifCond .eq 7, 3, 0), (22, .iconst 1, 1, 1), (23, .goto 4, 3, 0), (26, .iconst 0, 1, 0), (27, .iload 4, 2, 0), (29, .ifCond .eq 7, 3, 0), (32, .iconst 1, 1, 1), (33, .goto 4, 3, 0), (36, .iconst 0, 1, 0), (37, .iadd, 1, 0), (38, .ireturn, 1, 0)], [], [(414, 0, 2, 1, f_Md_isAt)], [], [], [(0, [0, 1, 2, 3, 4, 5])], [], 2)
def f_Md_asideBy : mm_F := fun args h => mm_ga [1, 1, 1, 1, 1, 1] args (mm_gd 12 args h (mm_run p_Md_asideBy (mm_fu + 1) 0 args [] h))
set_option maxRecDepth 100000 in
theorem e_Md_asideBy_0 (f : Nat) (t : Nat) (v1 : Int32) (v2 : Int32) (v3 : Int32) (v4 : Int32) (v5 : Int32) (h : mm_H) : mm_run p_Md_asideBy (f + 1) 0 [.ref t, .int v1, .int v2, .int v3, .int v4, .int v5] [] h =
  mm_ci (f_Md_isAt [.ref t, .int v1, .int v2] h) fun x2 h1 =>
  if x2 = 0 then
    some (some (.int 0), h1)
  else
    if v5 = 0 then
      if v3 = 0 then
        if v4 = 0 then
          some (some (.int (0 + 0)), h1)
        else
          some (some (.int (0 + 1)), h1)
      else
        if v4 = 0 then
          some (some (.int (1 + 0)), h1)
        else
          some (some (.int (1 + 1)), h1)
    else
      some (some (.int 0), h1) := rfl
theorem e_Md_asideBy (t : Nat) (v1 : Int32) (v2 : Int32) (v3 : Int32) (v4 : Int32) (v5 : Int32) (h : mm_H) {fs : List Value} (hb : h t = some (.inr (12, fs))) : f_Md_asideBy [.ref t, .int v1, .int v2, .int v3, .int v4, .int v5] h =
  mm_ci (f_Md_isAt [.ref t, .int v1, .int v2] h) fun x2 h1 =>
  if x2 = 0 then
    some (some (.int 0), h1)
  else
    if v5 = 0 then
      if v3 = 0 then
        if v4 = 0 then
          some (some (.int (0 + 0)), h1)
        else
          some (some (.int (0 + 1)), h1)
      else
        if v4 = 0 then
          some (some (.int (1 + 0)), h1)
        else
          some (some (.int (1 + 1)), h1)
    else
      some (some (.int 0), h1) := (mm_ga_is rfl).trans ((mm_gd_is hb).trans (e_Md_asideBy_0 mm_fu t v1 v2 v3 v4 v5 h))
set_option maxRecDepth 100000 in
theorem i_Md_asideBy (l : Launch) : mm_Imp l yX12_asideBy cX12_asideBy 6 (some .int) 2 f_Md_asideBy := mm_imp l (P := p_Md_asideBy) mm_cls_ok mm_sys_ok (by decide) (mm_Pok_of (fun _ h => absurd h List.not_mem_nil) (List.forall_mem_cons.mpr ⟨v_Md_isAt l q_2078 (by decide), (fun _ h => absurd h List.not_mem_nil)⟩) (fun _ h => absurd h List.not_mem_nil) (fun _ h => absurd h List.not_mem_nil)) (by decide +kernel) rfl (cats := [1, 1, 1, 1, 1, 1]) (fun as h r e => ⟨(mm_ga_inv e).1, (mm_gd_inv (mm_ga_inv e).2).1⟩) rfl (by decide)
theorem v_Md_asideBy (l : Launch) {own : String} {i n0 : Nat} (hl : Cond.methodLink own i yX12_asideBy ∈ mm_tbl) (hn : 3 ≤ n0) : mm_cok l own n0 i (0, 5, 1, f_Md_asideBy) := Or.inr (Or.inr ⟨rfl, yX12_asideBy, cX12_asideBy, 6, (some .int), 2, 12, TX12, 27, i_Md_asideBy l, hn, by decide, by decide +kernel, rfl, fun _ _ _ e => (mm_gd_inv (mm_ga_inv e).2).2, hl, q_2076, q_105, q_179, q_2077⟩)
def p_Md_lays : mm_P := ([(0, .aload_n 0, 1, 0), (1, .getfield 123, 3, 0), (4, .iload_n 1, 1, 0), (5, .bipush 79, 2, 79), (7, .iadd, 1, 0), (8, .aload_n 0, 1, 0), (9, .getfield 123, 3, 0), (12, .iload_n 1, 1, 0), (13, .bipush 12, 2, 12), (15, .iadd, 1, 0), (16, .iaload, 1, 0), (17, .iadd, 1, 0), (18, .iload_n 2, 1, 0), (19, .iastore, 1, 0), (20, .aload_n 0, 1, 0), (21, .getfield 123, 3, 0), (24, .iload_n 1, 1, 0), (25, .bipush 12, 2, 12), (27, .iadd, 1, 0), (28, .dup2, 1, 0), (29, .iaload, 1, 0), (30, .iconst 1, 1, 1), (31, .iadd, 1, 0), (32, .iastore, 1, 0), (33, .aload_n 0, 1, 0), (34, .getfield 123, 3, 0), (37, .iload_n 1, 1, 0), (38, .iconst 3, 1, 3), (39, .iadd, 1, 0), (40, .dup2, 1, 0), (41, .iaload, 1, 0), (42, .iconst 1, 1, 1), (43, .iadd, 1, 0), (44, .iastore, 1, 0), (45, .return_, 1, 0)], [(123, 12, 14, 4)], [], [], [], [(0, [0, 1, 2])], [], 0)
def f_Md_lays : mm_F := fun args h => mm_ga [1, 1, 1] args (mm_gd 12 args h (mm_run p_Md_lays (mm_fu + 1) 0 args [] h))
set_option maxRecDepth 100000 in
theorem e_Md_lays_0 (f : Nat) (t : Nat) (v1 : Int32) (v2 : Int32) (h : mm_H) : mm_run p_Md_lays (f + 1) 0 [.ref t, .int v1, .int v2] [] h =
  (mm_gr 12 14 h t).bind fun r1 =>
  (mm_gr 12 14 h t).bind fun r2 =>
  (mm_li h r2 (v1 + 12)).bind fun x3 =>
  (mm_si h r1 ((v1 + 79) + x3) v2).bind fun h4 =>
  (mm_gr 12 14 h4 t).bind fun r5 =>
  (mm_li h4 r5 (v1 + 12)).bind fun x6 =>
  (mm_si h4 r5 (v1 + 12) (x6 + 1)).bind fun h7 =>
  (mm_gr 12 14 h7 t).bind fun r8 =>
  (mm_li h7 r8 (v1 + 3)).bind fun x9 =>
  (mm_si h7 r8 (v1 + 3) (x9 + 1)).bind fun h10 =>
  some (none, h10) := rfl
theorem e_Md_lays (t : Nat) (v1 : Int32) (v2 : Int32) (h : mm_H) {fs : List Value} (hb : h t = some (.inr (12, fs))) : f_Md_lays [.ref t, .int v1, .int v2] h =
  (mm_gr 12 14 h t).bind fun r1 =>
  (mm_gr 12 14 h t).bind fun r2 =>
  (mm_li h r2 (v1 + 12)).bind fun x3 =>
  (mm_si h r1 ((v1 + 79) + x3) v2).bind fun h4 =>
  (mm_gr 12 14 h4 t).bind fun r5 =>
  (mm_li h4 r5 (v1 + 12)).bind fun x6 =>
  (mm_si h4 r5 (v1 + 12) (x6 + 1)).bind fun h7 =>
  (mm_gr 12 14 h7 t).bind fun r8 =>
  (mm_li h7 r8 (v1 + 3)).bind fun x9 =>
  (mm_si h7 r8 (v1 + 3) (x9 + 1)).bind fun h10 =>
  some (none, h10) := (mm_ga_is rfl).trans ((mm_gd_is hb).trans (e_Md_lays_0 mm_fu t v1 v2 h))
set_option maxRecDepth 100000 in
theorem i_Md_lays (l : Launch) : mm_Imp l yX12_lays cX12_lays 3 none 1 f_Md_lays := mm_imp l (P := p_Md_lays) mm_cls_ok mm_sys_ok (by decide) (mm_Pok_of (List.forall_mem_cons.mpr ⟨k_X12_123, (fun _ h => absurd h List.not_mem_nil)⟩) (fun _ h => absurd h List.not_mem_nil) (fun _ h => absurd h List.not_mem_nil) (fun _ h => absurd h List.not_mem_nil)) (by decide +kernel) rfl (cats := [1, 1, 1]) (fun as h r e => ⟨(mm_ga_inv e).1, (mm_gd_inv (mm_ga_inv e).2).1⟩) rfl (by decide)
theorem v_Md_lays (l : Launch) {own : String} {i n0 : Nat} (hl : Cond.methodLink own i yX12_lays ∈ mm_tbl) (hn : 2 ≤ n0) : mm_cok l own n0 i (0, 2, 0, f_Md_lays) := Or.inr (Or.inr ⟨rfl, yX12_lays, cX12_lays, 3, none, 1, 12, TX12, 27, i_Md_lays l, hn, by decide, by decide +kernel, rfl, fun _ _ _ e => (mm_gd_inv (mm_ga_inv e).2).2, hl, q_2088, q_108, q_179, q_2089⟩)
def p_Md_leavesIndex : mm_P := ([(0, .aload_n 0, 1, 0), (1, .iload_n 1, 1, 0), (2, .iload_n 2, 1, 0), (3, .invokevirtual 414, 3, 0), (6, .ifCond .eq 23, 3, 0), (9, .aload_n 0, 1, 0), (10, .iload_n 1, 1, 0), (11, .sipush 1000, 3, 1000), (14, .iload_n 3, 1, 0), (15, .imul, 1, 0), (16, .iload 4, 2, 0), (18, .iadd, 1, 0), (19, .ldc_w 383, 3, 0), (22, .isub, 1, 0), (23, .invokevirtual 417, 3, 0), (26, .goto 17, 3, 0), (29, .aload_n 0, 1, 0), (30, .iload_n 1, 1, 0), (31, .iload_n 2, 1, 0), (32, .aload_n 0, 1, 0), (33, .iload_n 2, 1, 0), (34, .iload_n 3, 1, 0), (35, .iload 4, 2, 0), (37, .invokevirtual 384, 3, 0), (40, .invokevirtual 387, 3, 0), (43, .return_, 1, 0)], [], [(384, 0, 3, 1, f_Md_entryOf), (387, 0, 3, 0, f_Md_takes), (414, 0, 2, 1, f_Md_isAt), (417, 0, 2, 0, f_Md_lays)], [(383, 40000)], [], [(0, [0, 1, 2, 3, 4])], [], 0)
def f_Md_leavesIndex : mm_F := fun args h => mm_ga [1, 1, 1, 1, 1] args (mm_gd 12 args h (mm_run p_Md_leavesIndex (mm_fu + 1) 0 args [] h))
set_option maxRecDepth 100000 in
theorem e_Md_leavesIndex_0 (f : Nat) (t : Nat) (v1 : Int32) (v2 : Int32) (v3 : Int32) (v4 : Int32) (h : mm_H) : mm_run p_Md_leavesIndex (f + 1) 0 [.ref t, .int v1, .int v2, .int v3, .int v4] [] h =
  mm_ci (f_Md_isAt [.ref t, .int v1, .int v2] h) fun x2 h1 =>
  if x2 = 0 then
    mm_ci (f_Md_entryOf [.ref t, .int v2, .int v3, .int v4] h1) fun x4 h3 =>
    mm_cv (f_Md_takes [.ref t, .int v1, .int v2, .int x4] h3) fun h5 =>
    some (none, h5)
  else
    mm_cv (f_Md_lays [.ref t, .int v1, .int (((1000 * v3) + v4) - 40000)] h1) fun h6 =>
    some (none, h6) := rfl
theorem e_Md_leavesIndex (t : Nat) (v1 : Int32) (v2 : Int32) (v3 : Int32) (v4 : Int32) (h : mm_H) {fs : List Value} (hb : h t = some (.inr (12, fs))) : f_Md_leavesIndex [.ref t, .int v1, .int v2, .int v3, .int v4] h =
  mm_ci (f_Md_isAt [.ref t, .int v1, .int v2] h) fun x2 h1 =>
  if x2 = 0 then
    mm_ci (f_Md_entryOf [.ref t, .int v2, .int v3, .int v4] h1) fun x4 h3 =>
    mm_cv (f_Md_takes [.ref t, .int v1, .int v2, .int x4] h3) fun h5 =>
    some (none, h5)
  else
    mm_cv (f_Md_lays [.ref t, .int v1, .int (((1000 * v3) + v4) - 40000)] h1) fun h6 =>
    some (none, h6) := (mm_ga_is rfl).trans ((mm_gd_is hb).trans (e_Md_leavesIndex_0 mm_fu t v1 v2 v3 v4 h))
set_option maxRecDepth 100000 in
theorem i_Md_leavesIndex (l : Launch) : mm_Imp l yX12_leavesIndex cX12_leavesIndex 5 none 6 f_Md_leavesIndex := mm_imp l (P := p_Md_leavesIndex) mm_cls_ok mm_sys_ok (by decide) (mm_Pok_of (fun _ h => absurd h List.not_mem_nil) (List.forall_mem_cons.mpr ⟨v_Md_entryOf l q_1791 (by decide), (List.forall_mem_cons.mpr ⟨v_Md_takes l q_2123 (by decide), (List.forall_mem_cons.mpr ⟨v_Md_isAt l q_2078 (by decide), (List.forall_mem_cons.mpr ⟨v_Md_lays l q_2086 (by decide), (fun _ h => absurd h List.not_mem_nil)⟩)⟩)⟩)⟩) (List.forall_mem_cons.mpr ⟨q_2122, (fun _ h => absurd h List.not_mem_nil)⟩) (fun _ h => absurd h List.not_mem_nil)) (by decide +kernel) rfl (cats := [1, 1, 1, 1, 1]) (fun as h r e => ⟨(mm_ga_inv e).1, (mm_gd_inv (mm_ga_inv e).2).1⟩) rfl (by decide)
theorem v_Md_leavesIndex (l : Launch) {own : String} {i n0 : Nat} (hl : Cond.methodLink own i yX12_leavesIndex ∈ mm_tbl) (hn : 7 ≤ n0) : mm_cok l own n0 i (0, 4, 0, f_Md_leavesIndex) := Or.inr (Or.inr ⟨rfl, yX12_leavesIndex, cX12_leavesIndex, 5, none, 6, 12, TX12, 27, i_Md_leavesIndex l, hn, by decide, by decide +kernel, rfl, fun _ _ _ e => (mm_gd_inv (mm_ga_inv e).2).2, hl, q_2120, q_115, q_179, q_2121⟩)
def p_Md_entersIndex : mm_P := ([(0, .aload_n 0, 1, 0), (1, .iload_n 1, 1, 0), (2, .iload_n 2, 1, 0), (3, .invokevirtual 414, 3, 0), (6, .ifCond .eq 19, 3, 0), (9, .aload_n 0, 1, 0), (10, .iload_n 1, 1, 0), (11, .sipush 1000, 3, 1000), (14, .iload_n 3, 1, 0), (15, .imul, 1, 0), (16, .iload 4, 2, 0), (18, .iadd, 1, 0), (19, .invokevirtual 417, 3, 0), (22, .goto 17, 3, 0), (25, .aload_n 0, 1, 0), (26, .iload_n 1, 1, 0), (27, .iload_n 2, 1, 0), (28, .aload_n 0, 1, 0), (29, .iload_n 2, 1, 0), (30, .iload_n 3, 1, 0), (31, .iload 4, 2, 0), (33, .invokevirtual 384, 3, 0), (36, .invokevirtual 390, 3, 0), (39, .return_, 1, 0)], [], [(384, 0, 3, 1, f_Md_entryOf), (390, 0, 3, 0, f_Md_puts), (414, 0, 2, 1, f_Md_isAt), (417, 0, 2, 0, f_Md_lays)], [], [], [(0, [0, 1, 2, 3, 4])], [], 0)
def f_Md_entersIndex : mm_F := fun args h => mm_ga [1, 1, 1, 1, 1] args (mm_gd 12 args h (mm_run p_Md_entersIndex (mm_fu + 1) 0 args [] h))
set_option maxRecDepth 100000 in
theorem e_Md_entersIndex_0 (f : Nat) (t : Nat) (v1 : Int32) (v2 : Int32) (v3 : Int32) (v4 : Int32) (h : mm_H) : mm_run p_Md_entersIndex (f + 1) 0 [.ref t, .int v1, .int v2, .int v3, .int v4] [] h =
  mm_ci (f_Md_isAt [.ref t, .int v1, .int v2] h) fun x2 h1 =>
  if x2 = 0 then
    mm_ci (f_Md_entryOf [.ref t, .int v2, .int v3, .int v4] h1) fun x4 h3 =>
    mm_cv (f_Md_puts [.ref t, .int v1, .int v2, .int x4] h3) fun h5 =>
    some (none, h5)
  else
    mm_cv (f_Md_lays [.ref t, .int v1, .int ((1000 * v3) + v4)] h1) fun h6 =>
    some (none, h6) := rfl
theorem e_Md_entersIndex (t : Nat) (v1 : Int32) (v2 : Int32) (v3 : Int32) (v4 : Int32) (h : mm_H) {fs : List Value} (hb : h t = some (.inr (12, fs))) : f_Md_entersIndex [.ref t, .int v1, .int v2, .int v3, .int v4] h =
  mm_ci (f_Md_isAt [.ref t, .int v1, .int v2] h) fun x2 h1 =>
  if x2 = 0 then
    mm_ci (f_Md_entryOf [.ref t, .int v2, .int v3, .int v4] h1) fun x4 h3 =>
    mm_cv (f_Md_puts [.ref t, .int v1, .int v2, .int x4] h3) fun h5 =>
    some (none, h5)
  else
    mm_cv (f_Md_lays [.ref t, .int v1, .int ((1000 * v3) + v4)] h1) fun h6 =>
    some (none, h6) := (mm_ga_is rfl).trans ((mm_gd_is hb).trans (e_Md_entersIndex_0 mm_fu t v1 v2 v3 v4 h))
set_option maxRecDepth 100000 in
theorem i_Md_entersIndex (l : Launch) : mm_Imp l yX12_entersIndex cX12_entersIndex 5 none 6 f_Md_entersIndex := mm_imp l (P := p_Md_entersIndex) mm_cls_ok mm_sys_ok (by decide) (mm_Pok_of (fun _ h => absurd h List.not_mem_nil) (List.forall_mem_cons.mpr ⟨v_Md_entryOf l q_1791 (by decide), (List.forall_mem_cons.mpr ⟨v_Md_puts l q_1795 (by decide), (List.forall_mem_cons.mpr ⟨v_Md_isAt l q_2078 (by decide), (List.forall_mem_cons.mpr ⟨v_Md_lays l q_2086 (by decide), (fun _ h => absurd h List.not_mem_nil)⟩)⟩)⟩)⟩) (fun _ h => absurd h List.not_mem_nil) (fun _ h => absurd h List.not_mem_nil)) (by decide +kernel) rfl (cats := [1, 1, 1, 1, 1]) (fun as h r e => ⟨(mm_ga_inv e).1, (mm_gd_inv (mm_ga_inv e).2).1⟩) rfl (by decide)
theorem v_Md_entersIndex (l : Launch) {own : String} {i n0 : Nat} (hl : Cond.methodLink own i yX12_entersIndex ∈ mm_tbl) (hn : 7 ≤ n0) : mm_cok l own n0 i (0, 4, 0, f_Md_entersIndex) := Or.inr (Or.inr ⟨rfl, yX12_entersIndex, cX12_entersIndex, 5, none, 6, 12, TX12, 27, i_Md_entersIndex l, hn, by decide, by decide +kernel, rfl, fun _ _ _ e => (mm_gd_inv (mm_ga_inv e).2).2, hl, q_2084, q_107, q_179, q_2085⟩)
def p_Md_onceClash : mm_P := ([(0, .iconst 0, 1, 0), (1, .istore 5, 2, 0), (3, .iconst 0, 1, 0), (4, .istore 6, 2, 0), (6, .iload 6, 2, 0), (8, .aload_n 0, 1, 0), (9, .invokevirtual 268, 3, 0), (12, .if_icmp .ge 85, 3, 0), (15, .aload_n 0, 1, 0), (16, .iload 6, 2, 0), (18, .invokevirtual 299, 3, 0), (21, .iconst 2, 1, 2), (22, .if_icmp .ne 48, 3, 0), (25, .aload_n 0, 1, 0), (26, .iload 6, 2, 0), (28, .invokevirtual 411, 3, 0), (31, .iload_n 2, 1, 0), (32, .if_icmp .ne 38, 3, 0), (35, .aload_n 0, 1, 0), (36, .iload_n 1, 1, 0), (37, .aload_n 0, 1, 0), (38, .iload_n 1, 1, 0), (39, .invokevirtual 279, 3, 0), (42, .iload_n 2, 1, 0), (43, .iload_n 3, 1, 0), (44, .invokevirtual 289, 3, 0), (47, .iload 4, 2, 0), (49, .ifCond .ge 7, 3, 0), (52, .iconst 0, 1, 0), (53, .goto 7, 3, 0), (56, .iconst 1, 1, 1), (57, .iload 4, 2, 0), (59, .ishl, 1, 0), (60, .iconst (-1), 1, (-1)), (61, .ixor, 1, 0), (62, .iand, 1, 0), (63, .ifCond .eq 7, 3, 0), (66, .iconst 1, 1, 1), (67, .goto 4, 3, 0), (70, .iconst 0, 1, 0), (71, .istore 7, 2, 0), (73, .iload 5, 2, 0), (75, .iload 7, 2, 0), (77, .ifCond .eq 10, 3, 0), (80, .iconst 1, 1, 1), (81, .iload 6, 2, 0), (83, .ishl, 1, 0), (84, .goto 4, 3, 0), (87, .iconst 0, 1, 0), (88, .ior, 1, 0), (89, .istore 5, 2, 0), (91, .iinc 6 1, 3, 1), (94, .goto (-88), 3, 0), (97, .iload 5, 2, 0), (99, .ireturn, 1, 0)], [], [(268, 0, 0, 1, f_Md_indexes), (279, 0, 1, 1, f_Md_visible), (289, 0, 4, 1, f_Md_having), (299, 0, 1, 1, f_Md_kindOf), (411, 0, 1, 1, f_Md_columnAt)], [], [], [(0, [0, 1, 2, 3, 4]), (6, [0, 1, 2, 3, 4, 5, 6])], [], 2)
def f_Md_onceClash : mm_F := fun args h => mm_ga [1, 1, 1, 1, 1] args (mm_gd 12 args h (mm_run p_Md_onceClash (mm_fu + 1) 0 args [] h))
set_option maxRecDepth 100000 in
theorem e_Md_onceClash_0 (f : Nat) (t : Nat) (v1 : Int32) (v2 : Int32) (v3 : Int32) (v4 : Int32) (h : mm_H) : mm_run p_Md_onceClash (f + 1) 0 [.ref t, .int v1, .int v2, .int v3, .int v4] [] h =
  mm_run p_Md_onceClash f 6 [.ref t, .int v1, .int v2, .int v3, .int v4, .int 0, .int 0] [] h := rfl
theorem e_Md_onceClash (t : Nat) (v1 : Int32) (v2 : Int32) (v3 : Int32) (v4 : Int32) (h : mm_H) {fs : List Value} (hb : h t = some (.inr (12, fs))) : f_Md_onceClash [.ref t, .int v1, .int v2, .int v3, .int v4] h =
  mm_run p_Md_onceClash mm_fu 6 [.ref t, .int v1, .int v2, .int v3, .int v4, .int 0, .int 0] [] h := (mm_ga_is rfl).trans ((mm_gd_is hb).trans (e_Md_onceClash_0 mm_fu t v1 v2 v3 v4 h))
set_option maxRecDepth 100000 in
theorem e_Md_onceClash_6 (f : Nat) (t : Nat) (v1 : Int32) (v2 : Int32) (v3 : Int32) (v4 : Int32) (v5 : Int32) (v6 : Int32) (h : mm_H) : mm_run p_Md_onceClash (f + 1) 6 [.ref t, .int v1, .int v2, .int v3, .int v4, .int v5, .int v6] [] h =
  mm_ci (f_Md_indexes [.ref t] h) fun x2 h1 =>
  if v6 < x2 then
    mm_ci (f_Md_kindOf [.ref t, .int v6] h1) fun x4 h3 =>
    if x4 = 2 then
      mm_ci (f_Md_columnAt [.ref t, .int v6] h3) fun x6 h5 =>
      if x6 = v2 then
        mm_ci (f_Md_visible [.ref t, .int v1] h5) fun x8 h7 =>
        mm_ci (f_Md_having [.ref t, .int v1, .int x8, .int v2, .int v3] h7) fun x10 h9 =>
        if v4 < 0 then
          if (x10 &&& (0 ^^^ (-1))) = 0 then
            mm_run p_Md_onceClash f 6 [.ref t, .int v1, .int v2, .int v3, .int v4, .int (v5 ||| 0), .int (v6 + 1)] [] h9
          else
            mm_run p_Md_onceClash f 6 [.ref t, .int v1, .int v2, .int v3, .int v4, .int (v5 ||| (1 <<< (v6 &&& 31))), .int (v6 + 1)] [] h9
        else
          if (x10 &&& ((1 <<< (v4 &&& 31)) ^^^ (-1))) = 0 then
            mm_run p_Md_onceClash f 6 [.ref t, .int v1, .int v2, .int v3, .int v4, .int (v5 ||| 0), .int (v6 + 1)] [] h9
          else
            mm_run p_Md_onceClash f 6 [.ref t, .int v1, .int v2, .int v3, .int v4, .int (v5 ||| (1 <<< (v6 &&& 31))), .int (v6 + 1)] [] h9
      else
        mm_run p_Md_onceClash f 6 [.ref t, .int v1, .int v2, .int v3, .int v4, .int (v5 ||| 0), .int (v6 + 1)] [] h5
    else
      mm_run p_Md_onceClash f 6 [.ref t, .int v1, .int v2, .int v3, .int v4, .int (v5 ||| 0), .int (v6 + 1)] [] h3
  else
    some (some (.int v5), h1) := rfl
set_option maxRecDepth 100000 in
theorem i_Md_onceClash (l : Launch) : mm_Imp l yX12_onceClash cX12_onceClash 8 (some .int) 4 f_Md_onceClash := mm_imp l (P := p_Md_onceClash) mm_cls_ok mm_sys_ok (by decide) (mm_Pok_of (fun _ h => absurd h List.not_mem_nil) (List.forall_mem_cons.mpr ⟨v_Md_indexes l q_1741 (by decide), (List.forall_mem_cons.mpr ⟨v_Md_visible l q_1772 (by decide), (List.forall_mem_cons.mpr ⟨v_Md_having l q_1776 (by decide), (List.forall_mem_cons.mpr ⟨v_Md_kindOf l q_1749 (by decide), (List.forall_mem_cons.mpr ⟨v_Md_columnAt l q_1787 (by decide), (fun _ h => absurd h List.not_mem_nil)⟩)⟩)⟩)⟩)⟩) (fun _ h => absurd h List.not_mem_nil) (fun _ h => absurd h List.not_mem_nil)) (by decide +kernel) rfl (cats := [1, 1, 1, 1, 1]) (fun as h r e => ⟨(mm_ga_inv e).1, (mm_gd_inv (mm_ga_inv e).2).1⟩) rfl (by decide)
theorem v_Md_onceClash (l : Launch) {own : String} {i n0 : Nat} (hl : Cond.methodLink own i yX12_onceClash ∈ mm_tbl) (hn : 5 ≤ n0) : mm_cok l own n0 i (0, 4, 1, f_Md_onceClash) := Or.inr (Or.inr ⟨rfl, yX12_onceClash, cX12_onceClash, 8, (some .int), 4, 12, TX12, 27, i_Md_onceClash l, hn, by decide, by decide +kernel, rfl, fun _ _ _ e => (mm_gd_inv (mm_ga_inv e).2).2, hl, q_2072, q_104, q_179, q_2073⟩)
def p_Md_inserted : mm_P := ([(0, .aload_n 0, 1, 0), (1, .getfield 123, 3, 0), (4, .iload_n 1, 1, 0), (5, .iconst 2, 1, 2), (6, .iadd, 1, 0), (7, .iaload, 1, 0), (8, .istore 5, 2, 0), (10, .iload 5, 2, 0), (12, .bipush 30, 2, 30), (14, .if_icmp .eq 33, 3, 0), (17, .aload_n 0, 1, 0), (18, .iload_n 1, 1, 0), (19, .iconst 0, 1, 0), (20, .iload_n 2, 1, 0), (21, .iconst (-1), 1, (-1)), (22, .invokevirtual 420, 3, 0), (25, .aload_n 0, 1, 0), (26, .iload_n 1, 1, 0), (27, .iconst 1, 1, 1), (28, .iload_n 3, 1, 0), (29, .iconst (-1), 1, (-1)), (30, .invokevirtual 420, 3, 0), (33, .ior, 1, 0), (34, .aload_n 0, 1, 0), (35, .iload_n 1, 1, 0), (36, .iconst 2, 1, 2), (37, .iload 4, 2, 0), (39, .iconst (-1), 1, (-1)), (40, .invokevirtual 420, 3, 0), (43, .ior, 1, 0), (44, .ifCond .eq 5, 3, 0), (47, .iconst (-1), 1, (-1)), (48, .ireturn, 1, 0), (49, .aload_n 0, 1, 0), (50, .getfield 123, 3, 0), (53, .iload_n 1, 1, 0), (54, .bipush 13, 2, 13), (56, .iadd, 1, 0), (57, .iload 5, 2, 0), (59, .iadd, 1, 0), (60, .iload_n 2, 1, 0), (61, .iload_n 3, 1, 0), (62, .iload 4, 2, 0), (64, .invokestatic 248, 3, 0), (67, .iastore, 1, 0), (68, .iconst 0, 1, 0), (69, .istore 6, 2, 0), (71, .iconst 0, 1, 0), (72, .istore 7, 2, 0), (74, .iload 7, 2, 0), (76, .aload_n 0, 1, 0), (77, .invokevirtual 268, 3, 0), (80, .if_icmp .ge 32, 3, 0), (83, .iload 6, 2, 0), (85, .aload_n 0, 1, 0), (86, .iload_n 1, 1, 0), (87, .iload 7, 2, 0), (89, .iconst 0, 1, 0), (90, .aload_n 0, 1, 0), (91, .iload_n 1, 1, 0), (92, .iload 7, 2, 0), (94, .iload 5, 2, 0), (96, .invokevirtual 423, 3, 0), (99, .iconst 0, 1, 0), (100, .invokevirtual 426, 3, 0), (103, .iadd, 1, 0), (104, .istore 6, 2, 0), (106, .iinc 7 1, 3, 1), (109, .goto (-35), 3, 0), (112, .aload_n 0, 1, 0), (113, .getfield 123, 3, 0), (116, .iload_n 1, 1, 0), (117, .bipush 12, 2, 12), (119, .iadd, 1, 0), (120, .iaload, 1, 0), (121, .aload_n 0, 1, 0), (122, .getfield 123, 3, 0), (125, .iload_n 1, 1, 0), (126, .iconst 5, 1, 5), (127, .iadd, 1, 0), (128, .iaload, 1, 0), (129, .imul, 1, 0), (130, .iload 6, 2, 0), (132, .iadd, 1, 0), (133, .bipush 40, 2, 40), (135, .if_icmp .le 5, 3, 0), (138, .iconst (-1), 1, (-1)), (139, .ireturn, 1, 0), (140, .aload_n 0, 1, 0), (141, .getfield 123, 3, 0), (144, .iload_n 1, 1, 0), (145, .iconst 2, 1, 2), (146, .iadd, 1, 0), (147, .dup2, 1, 0), (148, .iaload, 1, 0), (149, .iconst 1, 1, 1), (150, .iadd, 1, 0), (151, .iastore, 1, 0), (152, .aload_n 0, 1, 0), (153, .getfield 123, 3, 0), (156, .iload_n 1, 1, 0), (157, .iconst 0, 1, 0), (158, .iadd, 1, 0), (159, .dup2, 1, 0), (160, .iaload, 1, 0), (161, .iconst 1, 1, 1), (162, .iload 5, 2, 0), (164, .ishl, 1, 0), (165, .ior, 1, 0), (166, .iastore, 1, 0), (167, .iconst 0, 1, 0), (168, .istore 7, 2, 0), (170, .iload 7, 2, 0), (172, .aload_n 0, 1, 0), (173, .invokevirtual 268, 3, 0), (176, .if_icmp .ge 43, 3, 0), (179, .aload_n 0, 1, 0), (180, .iload_n 1, 1, 0), (181, .iload 7, 2, 0), (183, .iload 5, 2, 0), (185, .invokevirtual 423, 3, 0), (188, .ifCond .eq 25, 3, 0), (191, .aload_n 0, 1, 0), (192, .iload_n 1, 1, 0), (193, .iload 7, 2, 0), (195, .iload 5, 2, 0), (197, .aload_n 0, 1, 0), (198, .iload_n 1, 1, 0), (199, .iload 5, 2, 0), (201, .aload_n 0, 1, 0), (202, .iload 7, 2, 0), (204, .invokevirtual 411, 3, 0), (207, .invokevirtual 286, 3, 0), (210, .invokevirtual 430, 3, 0), (213, .iinc 7 1, 3, 1), (216, .goto (-46), 3, 0), (219, .iload 5, 2, 0), (221, .ireturn, 1, 0)], [(123, 12, 14, 4)], [(248, 1, 3, 1, f_Md_packed), (268, 0, 0, 1, f_Md_indexes), (286, 0, 3, 1, f_Md_valueOf), (411, 0, 1, 1, f_Md_columnAt), (420, 0, 4, 1, f_Md_onceClash), (423, 0, 3, 1, f_Md_belongs), (426, 0, 5, 1, f_Md_asideBy), (430, 0, 4, 0, f_Md_entersIndex)], [], [], [(0, [0, 1, 2, 3, 4]), (74, [0, 1, 5, 6, 7]), (170, [0, 1, 5, 7])], [], 2)
def f_Md_inserted : mm_F := fun args h => mm_ga [1, 1, 1, 1, 1] args (mm_gd 12 args h (mm_run p_Md_inserted (mm_fu + 1) 0 args [] h))
set_option maxRecDepth 100000 in
theorem e_Md_inserted_0 (f : Nat) (t : Nat) (v1 : Int32) (v2 : Int32) (v3 : Int32) (v4 : Int32) (h : mm_H) : mm_run p_Md_inserted (f + 1) 0 [.ref t, .int v1, .int v2, .int v3, .int v4] [] h =
  (mm_gr 12 14 h t).bind fun r1 =>
  (mm_li h r1 (v1 + 2)).bind fun x2 =>
  if x2 = 30 then
    some (some (.int (-1)), h)
  else
    mm_ci (f_Md_onceClash [.ref t, .int v1, .int 0, .int v2, .int (-1)] h) fun x4 h3 =>
    mm_ci (f_Md_onceClash [.ref t, .int v1, .int 1, .int v3, .int (-1)] h3) fun x6 h5 =>
    mm_ci (f_Md_onceClash [.ref t, .int v1, .int 2, .int v4, .int (-1)] h5) fun x8 h7 =>
    if ((x4 ||| x6) ||| x8) = 0 then
      (mm_gr 12 14 h7 t).bind fun r9 =>
      mm_ci (f_Md_packed [.int v2, .int v3, .int v4] h7) fun x11 h10 =>
      (mm_si h10 r9 ((v1 + 13) + x2) x11).bind fun h12 =>
      mm_run p_Md_inserted f 74 [.ref t, .int v1, .int x2, .int 0, .int 0] [] h12
    else
      some (some (.int (-1)), h7) := rfl
theorem e_Md_inserted (t : Nat) (v1 : Int32) (v2 : Int32) (v3 : Int32) (v4 : Int32) (h : mm_H) {fs : List Value} (hb : h t = some (.inr (12, fs))) : f_Md_inserted [.ref t, .int v1, .int v2, .int v3, .int v4] h =
  (mm_gr 12 14 h t).bind fun r1 =>
  (mm_li h r1 (v1 + 2)).bind fun x2 =>
  if x2 = 30 then
    some (some (.int (-1)), h)
  else
    mm_ci (f_Md_onceClash [.ref t, .int v1, .int 0, .int v2, .int (-1)] h) fun x4 h3 =>
    mm_ci (f_Md_onceClash [.ref t, .int v1, .int 1, .int v3, .int (-1)] h3) fun x6 h5 =>
    mm_ci (f_Md_onceClash [.ref t, .int v1, .int 2, .int v4, .int (-1)] h5) fun x8 h7 =>
    if ((x4 ||| x6) ||| x8) = 0 then
      (mm_gr 12 14 h7 t).bind fun r9 =>
      mm_ci (f_Md_packed [.int v2, .int v3, .int v4] h7) fun x11 h10 =>
      (mm_si h10 r9 ((v1 + 13) + x2) x11).bind fun h12 =>
      mm_run p_Md_inserted mm_fu 74 [.ref t, .int v1, .int x2, .int 0, .int 0] [] h12
    else
      some (some (.int (-1)), h7) := (mm_ga_is rfl).trans ((mm_gd_is hb).trans (e_Md_inserted_0 mm_fu t v1 v2 v3 v4 h))
set_option maxRecDepth 100000 in
theorem e_Md_inserted_74 (f : Nat) (t : Nat) (v1 : Int32) (v5 : Int32) (v6 : Int32) (v7 : Int32) (h : mm_H) : mm_run p_Md_inserted (f + 1) 74 [.ref t, .int v1, .int v5, .int v6, .int v7] [] h =
  mm_ci (f_Md_indexes [.ref t] h) fun x2 h1 =>
  if v7 < x2 then
    mm_ci (f_Md_belongs [.ref t, .int v1, .int v7, .int v5] h1) fun x4 h3 =>
    mm_ci (f_Md_asideBy [.ref t, .int v1, .int v7, .int 0, .int x4, .int 0] h3) fun x6 h5 =>
    mm_run p_Md_inserted f 74 [.ref t, .int v1, .int v5, .int (v6 + x6), .int (v7 + 1)] [] h5
  else
    (mm_gr 12 14 h1 t).bind fun r7 =>
    (mm_li h1 r7 (v1 + 12)).bind fun x8 =>
    (mm_gr 12 14 h1 t).bind fun r9 =>
    (mm_li h1 r9 (v1 + 5)).bind fun x10 =>
    if (40 : Int32) < ((x8 * x10) + v6) then
      some (some (.int (-1)), h1)
    else
      (mm_gr 12 14 h1 t).bind fun r11 =>
      (mm_li h1 r11 (v1 + 2)).bind fun x12 =>
      (mm_si h1 r11 (v1 + 2) (x12 + 1)).bind fun h13 =>
      (mm_gr 12 14 h13 t).bind fun r14 =>
      (mm_li h13 r14 (v1 + 0)).bind fun x15 =>
      (mm_si h13 r14 (v1 + 0) (x15 ||| (1 <<< (v5 &&& 31)))).bind fun h16 =>
      mm_run p_Md_inserted f 170 [.ref t, .int v1, .int v5, .int 0] [] h16 := rfl
set_option maxRecDepth 100000 in
theorem e_Md_inserted_170 (f : Nat) (t : Nat) (v1 : Int32) (v5 : Int32) (v7 : Int32) (h : mm_H) : mm_run p_Md_inserted (f + 1) 170 [.ref t, .int v1, .int v5, .int v7] [] h =
  mm_ci (f_Md_indexes [.ref t] h) fun x2 h1 =>
  if v7 < x2 then
    mm_ci (f_Md_belongs [.ref t, .int v1, .int v7, .int v5] h1) fun x4 h3 =>
    if x4 = 0 then
      mm_run p_Md_inserted f 170 [.ref t, .int v1, .int v5, .int (v7 + 1)] [] h3
    else
      mm_ci (f_Md_columnAt [.ref t, .int v7] h3) fun x6 h5 =>
      mm_ci (f_Md_valueOf [.ref t, .int v1, .int v5, .int x6] h5) fun x8 h7 =>
      mm_cv (f_Md_entersIndex [.ref t, .int v1, .int v7, .int v5, .int x8] h7) fun h9 =>
      mm_run p_Md_inserted f 170 [.ref t, .int v1, .int v5, .int (v7 + 1)] [] h9
  else
    some (some (.int v5), h1) := rfl
set_option maxRecDepth 100000 in
theorem i_Md_inserted (l : Launch) : mm_Imp l yX12_inserted cX12_inserted 8 (some .int) 7 f_Md_inserted := mm_imp l (P := p_Md_inserted) mm_cls_ok mm_sys_ok (by decide) (mm_Pok_of (List.forall_mem_cons.mpr ⟨k_X12_123, (fun _ h => absurd h List.not_mem_nil)⟩) (List.forall_mem_cons.mpr ⟨v_Md_packed l (Or.inl q_2004) (by decide), (List.forall_mem_cons.mpr ⟨v_Md_indexes l q_1741 (by decide), (List.forall_mem_cons.mpr ⟨v_Md_valueOf l q_1761 (by decide), (List.forall_mem_cons.mpr ⟨v_Md_columnAt l q_1787 (by decide), (List.forall_mem_cons.mpr ⟨v_Md_onceClash l q_2070 (by decide), (List.forall_mem_cons.mpr ⟨v_Md_belongs l q_1745 (by decide), (List.forall_mem_cons.mpr ⟨v_Md_asideBy l q_2074 (by decide), (List.forall_mem_cons.mpr ⟨v_Md_entersIndex l q_2082 (by decide), (fun _ h => absurd h List.not_mem_nil)⟩)⟩)⟩)⟩)⟩)⟩)⟩)⟩) (fun _ h => absurd h List.not_mem_nil) (fun _ h => absurd h List.not_mem_nil)) (by decide +kernel) rfl (cats := [1, 1, 1, 1, 1]) (fun as h r e => ⟨(mm_ga_inv e).1, (mm_gd_inv (mm_ga_inv e).2).1⟩) rfl (by decide)
theorem v_Md_inserted (l : Launch) {own : String} {i n0 : Nat} (hl : Cond.methodLink own i yX12_inserted ∈ mm_tbl) (hn : 8 ≤ n0) : mm_cok l own n0 i (0, 4, 1, f_Md_inserted) := Or.inr (Or.inr ⟨rfl, yX12_inserted, cX12_inserted, 8, (some .int), 7, 12, TX12, 27, i_Md_inserted l, hn, by decide, by decide +kernel, rfl, fun _ _ _ e => (mm_gd_inv (mm_ga_inv e).2).2, hl, q_2068, q_103, q_179, q_2069⟩)
def p_Md_canGo : mm_P := ([(0, .aload_n 0, 1, 0), (1, .iload_n 1, 1, 0), (2, .iload_n 2, 1, 0), (3, .iconst 0, 1, 0), (4, .invokevirtual 286, 3, 0), (7, .istore_n 3, 1, 0), (8, .aload_n 0, 1, 0), (9, .iload_n 1, 1, 0), (10, .aload_n 0, 1, 0), (11, .iload_n 1, 1, 0), (12, .invokevirtual 279, 3, 0), (15, .iconst 0, 1, 0), (16, .iload_n 3, 1, 0), (17, .invokevirtual 289, 3, 0), (20, .iconst 1, 1, 1), (21, .iload_n 2, 1, 0), (22, .ishl, 1, 0), (23, .iconst (-1), 1, (-1)), (24, .ixor, 1, 0), (25, .iand, 1, 0), (26, .ifCond .ne 7, 3, 0), (29, .iconst 1, 1, 1), (30, .goto 4, 3, 0), (33, .iconst 0, 1, 0), (34, .istore 4, 2, 0), (36, .iconst 1, 1, 1), (37, .istore 5, 2, 0), (39, .iconst 0, 1, 0), (40, .istore 6, 2, 0), (42, .iload 6, 2, 0), (44, .aload_n 0, 1, 0), (45, .getfield 123, 3, 0), (48, .iload_n 1, 1, 0), (49, .iconst 4, 1, 4), (50, .iadd, 1, 0), (51, .iaload, 1, 0), (52, .if_icmp .ge 57, 3, 0), (55, .iload 5, 2, 0), (57, .ifCond .eq 43, 3, 0), (60, .iload 4, 2, 0), (62, .ifCond .eq 34, 3, 0), (65, .aload_n 0, 1, 0), (66, .getfield 123, 3, 0), (69, .iload_n 1, 1, 0), (70, .bipush 43, 2, 43), (72, .iadd, 1, 0), (73, .iload 6, 2, 0), (75, .iadd, 1, 0), (76, .iaload, 1, 0), (77, .ifCond .ne 19, 3, 0), (80, .aload_n 0, 1, 0), (81, .getfield 123, 3, 0), (84, .iload_n 1, 1, 0), (85, .bipush 55, 2, 55), (87, .iadd, 1, 0), (88, .iload 6, 2, 0), (90, .iadd, 1, 0), (91, .iaload, 1, 0), (92, .iload_n 3, 1, 0), (93, .if_icmp .eq 7, 3, 0), (96, .iconst 1, 1, 1), (97, .goto 4, 3, 0), (100, .iconst 0, 1, 0), (101, .istore 5, 2, 0), (103, .iinc 6 1, 3, 1), (106, .goto (-64), 3, 0), (109, .iconst 0, 1, 0), (110, .istore 6, 2, 0), (112, .iconst 0, 1, 0), (113, .istore 7, 2, 0), (115, .iload 7, 2, 0), (117, .aload_n 0, 1, 0), (118, .invokevirtual 268, 3, 0), (121, .if_icmp .ge 31, 3, 0), (124, .iload 6, 2, 0), (126, .aload_n 0, 1, 0), (127, .iload_n 1, 1, 0), (128, .iload 7, 2, 0), (130, .aload_n 0, 1, 0), (131, .iload_n 1, 1, 0), (132, .iload 7, 2, 0), (134, .iload_n 2, 1, 0), (135, .invokevirtual 423, 3, 0), (138, .iconst 0, 1, 0), (139, .iconst 0, 1, 0), (140, .invokevirtual 426, 3, 0), (143, .iadd, 1, 0), (144, .istore 6, 2, 0), (146, .iinc 7 1, 3, 1), (149, .goto (-34), 3, 0), (152, .iload 5, 2, 0), (154, .ifCond .eq 33, 3, 0), (157, .aload_n 0, 1, 0), (158, .getfield 123, 3, 0), (161, .iload_n 1, 1, 0), (162, .bipush 12, 2, 12), (164, .iadd, 1, 0), (165, .iaload, 1, 0), (166, .aload_n 0, 1, 0), (167, .getfield 123, 3, 0), (170, .iload_n 1, 1, 0), (171, .iconst 5, 1, 5), (172, .iadd, 1, 0), (173, .iaload, 1, 0), (174, .imul, 1, 0), (175, .iload 6, 2, 0), (177, .iadd, 1, 0), (178, .bipush 40, 2, 40), (180, .if_icmp .gt 7, 3, 0), (183, .iconst 1, 1, 1), (184, .goto 4, 3, 0), (187, .iconst 0, 1, 0), (188, .ireturn, 1, 0)], [(123, 12, 14, 4)], [(268, 0, 0, 1, f_Md_indexes), (279, 0, 1, 1, f_Md_visible), (286, 0, 3, 1, f_Md_valueOf), (289, 0, 4, 1, f_Md_having), (423, 0, 3, 1, f_Md_belongs), (426, 0, 5, 1, f_Md_asideBy)], [], [], [(0, [0, 1, 2]), (42, [0, 1, 2, 3, 4, 5, 6]), (115, [0, 1, 2, 5, 6, 7])], [], 1)
def f_Md_canGo : mm_F := fun args h => mm_ga [1, 1, 1] args (mm_gd 12 args h (mm_run p_Md_canGo (mm_fu + 1) 0 args [] h))
set_option maxRecDepth 100000 in
theorem e_Md_canGo_0 (f : Nat) (t : Nat) (v1 : Int32) (v2 : Int32) (h : mm_H) : mm_run p_Md_canGo (f + 1) 0 [.ref t, .int v1, .int v2] [] h =
  mm_ci (f_Md_valueOf [.ref t, .int v1, .int v2, .int 0] h) fun x2 h1 =>
  mm_ci (f_Md_visible [.ref t, .int v1] h1) fun x4 h3 =>
  mm_ci (f_Md_having [.ref t, .int v1, .int x4, .int 0, .int x2] h3) fun x6 h5 =>
  if (x6 &&& ((1 <<< (v2 &&& 31)) ^^^ (-1))) = 0 then
    mm_run p_Md_canGo f 42 [.ref t, .int v1, .int v2, .int x2, .int 1, .int 1, .int 0] [] h5
  else
    mm_run p_Md_canGo f 42 [.ref t, .int v1, .int v2, .int x2, .int 0, .int 1, .int 0] [] h5 := rfl
theorem e_Md_canGo (t : Nat) (v1 : Int32) (v2 : Int32) (h : mm_H) {fs : List Value} (hb : h t = some (.inr (12, fs))) : f_Md_canGo [.ref t, .int v1, .int v2] h =
  mm_ci (f_Md_valueOf [.ref t, .int v1, .int v2, .int 0] h) fun x2 h1 =>
  mm_ci (f_Md_visible [.ref t, .int v1] h1) fun x4 h3 =>
  mm_ci (f_Md_having [.ref t, .int v1, .int x4, .int 0, .int x2] h3) fun x6 h5 =>
  if (x6 &&& ((1 <<< (v2 &&& 31)) ^^^ (-1))) = 0 then
    mm_run p_Md_canGo mm_fu 42 [.ref t, .int v1, .int v2, .int x2, .int 1, .int 1, .int 0] [] h5
  else
    mm_run p_Md_canGo mm_fu 42 [.ref t, .int v1, .int v2, .int x2, .int 0, .int 1, .int 0] [] h5 := (mm_ga_is rfl).trans ((mm_gd_is hb).trans (e_Md_canGo_0 mm_fu t v1 v2 h))
set_option maxRecDepth 100000 in
theorem e_Md_canGo_42 (f : Nat) (t : Nat) (v1 : Int32) (v2 : Int32) (v3 : Int32) (v4 : Int32) (v5 : Int32) (v6 : Int32) (h : mm_H) : mm_run p_Md_canGo (f + 1) 42 [.ref t, .int v1, .int v2, .int v3, .int v4, .int v5, .int v6] [] h =
  (mm_gr 12 14 h t).bind fun r1 =>
  (mm_li h r1 (v1 + 4)).bind fun x2 =>
  if v6 < x2 then
    if v5 = 0 then
      mm_run p_Md_canGo f 42 [.ref t, .int v1, .int v2, .int v3, .int v4, .int 0, .int (v6 + 1)] [] h
    else
      if v4 = 0 then
        mm_run p_Md_canGo f 42 [.ref t, .int v1, .int v2, .int v3, .int v4, .int 1, .int (v6 + 1)] [] h
      else
        (mm_gr 12 14 h t).bind fun r3 =>
        (mm_li h r3 ((v1 + 43) + v6)).bind fun x4 =>
        if x4 = 0 then
          (mm_gr 12 14 h t).bind fun r5 =>
          (mm_li h r5 ((v1 + 55) + v6)).bind fun x6 =>
          if x6 = v3 then
            mm_run p_Md_canGo f 42 [.ref t, .int v1, .int v2, .int v3, .int v4, .int 0, .int (v6 + 1)] [] h
          else
            mm_run p_Md_canGo f 42 [.ref t, .int v1, .int v2, .int v3, .int v4, .int 1, .int (v6 + 1)] [] h
        else
          mm_run p_Md_canGo f 42 [.ref t, .int v1, .int v2, .int v3, .int v4, .int 1, .int (v6 + 1)] [] h
  else
    mm_run p_Md_canGo f 115 [.ref t, .int v1, .int v2, .int v5, .int 0, .int 0] [] h := rfl
set_option maxRecDepth 100000 in
theorem e_Md_canGo_115 (f : Nat) (t : Nat) (v1 : Int32) (v2 : Int32) (v5 : Int32) (v6 : Int32) (v7 : Int32) (h : mm_H) : mm_run p_Md_canGo (f + 1) 115 [.ref t, .int v1, .int v2, .int v5, .int v6, .int v7] [] h =
  mm_ci (f_Md_indexes [.ref t] h) fun x2 h1 =>
  if v7 < x2 then
    mm_ci (f_Md_belongs [.ref t, .int v1, .int v7, .int v2] h1) fun x4 h3 =>
    mm_ci (f_Md_asideBy [.ref t, .int v1, .int v7, .int x4, .int 0, .int 0] h3) fun x6 h5 =>
    mm_run p_Md_canGo f 115 [.ref t, .int v1, .int v2, .int v5, .int (v6 + x6), .int (v7 + 1)] [] h5
  else
    if v5 = 0 then
      some (some (.int 0), h1)
    else
      (mm_gr 12 14 h1 t).bind fun r7 =>
      (mm_li h1 r7 (v1 + 12)).bind fun x8 =>
      (mm_gr 12 14 h1 t).bind fun r9 =>
      (mm_li h1 r9 (v1 + 5)).bind fun x10 =>
      if (40 : Int32) < ((x8 * x10) + v6) then
        some (some (.int 0), h1)
      else
        some (some (.int 1), h1) := rfl
set_option maxRecDepth 100000 in
theorem i_Md_canGo (l : Launch) : mm_Imp l yX12_canGo cX12_canGo 8 (some .boolean) 7 f_Md_canGo := mm_imp l (P := p_Md_canGo) mm_cls_ok mm_sys_ok (by decide) (mm_Pok_of (List.forall_mem_cons.mpr ⟨k_X12_123, (fun _ h => absurd h List.not_mem_nil)⟩) (List.forall_mem_cons.mpr ⟨v_Md_indexes l q_1741 (by decide), (List.forall_mem_cons.mpr ⟨v_Md_visible l q_1772 (by decide), (List.forall_mem_cons.mpr ⟨v_Md_valueOf l q_1761 (by decide), (List.forall_mem_cons.mpr ⟨v_Md_having l q_1776 (by decide), (List.forall_mem_cons.mpr ⟨v_Md_belongs l q_1745 (by decide), (List.forall_mem_cons.mpr ⟨v_Md_asideBy l q_2074 (by decide), (fun _ h => absurd h List.not_mem_nil)⟩)⟩)⟩)⟩)⟩)⟩) (fun _ h => absurd h List.not_mem_nil) (fun _ h => absurd h List.not_mem_nil)) (by decide +kernel) rfl (cats := [1, 1, 1]) (fun as h r e => ⟨(mm_ga_inv e).1, (mm_gd_inv (mm_ga_inv e).2).1⟩) rfl (by decide)
theorem v_Md_canGo (l : Launch) {own : String} {i n0 : Nat} (hl : Cond.methodLink own i yX12_canGo ∈ mm_tbl) (hn : 8 ≤ n0) : mm_cok l own n0 i (0, 2, 1, f_Md_canGo) := Or.inr (Or.inr ⟨rfl, yX12_canGo, cX12_canGo, 8, (some .boolean), 7, 12, TX12, 27, i_Md_canGo l, hn, by decide, by decide +kernel, rfl, fun _ _ _ e => (mm_gd_inv (mm_ga_inv e).2).2, hl, q_2112, q_113, q_179, q_2113⟩)
def p_Md_removed : mm_P := ([(0, .aload_n 0, 1, 0), (1, .iload_n 1, 1, 0), (2, .iload_n 2, 1, 0), (3, .invokevirtual 434, 3, 0), (6, .ifCond .eq 12, 3, 0), (9, .aload_n 0, 1, 0), (10, .iload_n 1, 1, 0), (11, .iload_n 2, 1, 0), (12, .invokevirtual 437, 3, 0), (15, .ifCond .ne 5, 3, 0), (18, .iconst 0, 1, 0), (19, .ireturn, 1, 0), (20, .aload_n 0, 1, 0), (21, .iload_n 1, 1, 0), (22, .iload_n 2, 1, 0), (23, .iconst 0, 1, 0), (24, .invokevirtual 286, 3, 0), (27, .istore_n 3, 1, 0), (28, .aload_n 0, 1, 0), (29, .getfield 123, 3, 0), (32, .iload_n 1, 1, 0), (33, .iconst 0, 1, 0), (34, .iadd, 1, 0), (35, .dup2, 1, 0), (36, .iaload, 1, 0), (37, .iconst 1, 1, 1), (38, .iload_n 2, 1, 0), (39, .ishl, 1, 0), (40, .iconst (-1), 1, (-1)), (41, .ixor, 1, 0), (42, .iand, 1, 0), (43, .iastore, 1, 0), (44, .iconst 0, 1, 0), (45, .istore 4, 2, 0), (47, .iload 4, 2, 0), (49, .aload_n 0, 1, 0), (50, .getfield 123, 3, 0), (53, .iload_n 1, 1, 0), (54, .iconst 4, 1, 4), (55, .iadd, 1, 0), (56, .iaload, 1, 0), (57, .if_icmp .ge 47, 3, 0), (60, .aload_n 0, 1, 0), (61, .getfield 123, 3, 0), (64, .iload_n 1, 1, 0), (65, .bipush 55, 2, 55), (67, .iadd, 1, 0), (68, .iload 4, 2, 0), (70, .iadd, 1, 0), (71, .iaload, 1, 0), (72, .iload_n 3, 1, 0), (73, .if_icmp .ne 25, 3, 0), (76, .aload_n 0, 1, 0), (77, .iload_n 1, 1, 0), (78, .aload_n 0, 1, 0), (79, .iload_n 1, 1, 0), (80, .invokevirtual 279, 3, 0), (83, .iconst 0, 1, 0), (84, .iload_n 3, 1, 0), (85, .invokevirtual 289, 3, 0), (88, .ifCond .ne 10, 3, 0), (91, .aload_n 0, 1, 0), (92, .iload_n 1, 1, 0), (93, .iload 4, 2, 0), (95, .invokevirtual 374, 3, 0), (98, .iinc 4 1, 3, 1), (101, .goto (-54), 3, 0), (104, .iconst 0, 1, 0), (105, .istore 4, 2, 0), (107, .iload 4, 2, 0), (109, .aload_n 0, 1, 0), (110, .invokevirtual 268, 3, 0), (113, .if_icmp .ge 40, 3, 0), (116, .aload_n 0, 1, 0), (117, .iload_n 1, 1, 0), (118, .iload 4, 2, 0), (120, .iload_n 2, 1, 0), (121, .invokevirtual 423, 3, 0), (124, .ifCond .eq 23, 3, 0), (127, .aload_n 0, 1, 0), (128, .iload_n 1, 1, 0), (129, .iload 4, 2, 0), (131, .iload_n 2, 1, 0), (132, .aload_n 0, 1, 0), (133, .iload_n 1, 1, 0), (134, .iload_n 2, 1, 0), (135, .aload_n 0, 1, 0), (136, .iload 4, 2, 0), (138, .invokevirtual 411, 3, 0), (141, .invokevirtual 286, 3, 0), (144, .invokevirtual 440, 3, 0), (147, .iinc 4 1, 3, 1), (150, .goto (-43), 3, 0), (153, .iconst 1, 1, 1), (154, .ireturn, 1, 0)], [(123, 12, 14, 4)], [(268, 0, 0, 1, f_Md_indexes), (279, 0, 1, 1, f_Md_visible), (286, 0, 3, 1, f_Md_valueOf), (289, 0, 4, 1, f_Md_having), (374, 0, 2, 0, f_Md_letsGo), (411, 0, 1, 1, f_Md_columnAt), (423, 0, 3, 1, f_Md_belongs), (434, 0, 2, 1, f_Md_isVisible), (437, 0, 2, 1, f_Md_canGo), (440, 0, 4, 0, f_Md_leavesIndex)], [], [], [(0, [0, 1, 2]), (47, [0, 1, 2, 3, 4]), (107, [0, 1, 2, 4])], [], 1)
def f_Md_removed : mm_F := fun args h => mm_ga [1, 1, 1] args (mm_gd 12 args h (mm_run p_Md_removed (mm_fu + 1) 0 args [] h))
set_option maxRecDepth 100000 in
theorem e_Md_removed_0 (f : Nat) (t : Nat) (v1 : Int32) (v2 : Int32) (h : mm_H) : mm_run p_Md_removed (f + 1) 0 [.ref t, .int v1, .int v2] [] h =
  mm_ci (f_Md_isVisible [.ref t, .int v1, .int v2] h) fun x2 h1 =>
  if x2 = 0 then
    some (some (.int 0), h1)
  else
    mm_ci (f_Md_canGo [.ref t, .int v1, .int v2] h1) fun x4 h3 =>
    if x4 = 0 then
      some (some (.int 0), h3)
    else
      mm_ci (f_Md_valueOf [.ref t, .int v1, .int v2, .int 0] h3) fun x6 h5 =>
      (mm_gr 12 14 h5 t).bind fun r7 =>
      (mm_li h5 r7 (v1 + 0)).bind fun x8 =>
      (mm_si h5 r7 (v1 + 0) (x8 &&& ((1 <<< (v2 &&& 31)) ^^^ (-1)))).bind fun h9 =>
      mm_run p_Md_removed f 47 [.ref t, .int v1, .int v2, .int x6, .int 0] [] h9 := rfl
theorem e_Md_removed (t : Nat) (v1 : Int32) (v2 : Int32) (h : mm_H) {fs : List Value} (hb : h t = some (.inr (12, fs))) : f_Md_removed [.ref t, .int v1, .int v2] h =
  mm_ci (f_Md_isVisible [.ref t, .int v1, .int v2] h) fun x2 h1 =>
  if x2 = 0 then
    some (some (.int 0), h1)
  else
    mm_ci (f_Md_canGo [.ref t, .int v1, .int v2] h1) fun x4 h3 =>
    if x4 = 0 then
      some (some (.int 0), h3)
    else
      mm_ci (f_Md_valueOf [.ref t, .int v1, .int v2, .int 0] h3) fun x6 h5 =>
      (mm_gr 12 14 h5 t).bind fun r7 =>
      (mm_li h5 r7 (v1 + 0)).bind fun x8 =>
      (mm_si h5 r7 (v1 + 0) (x8 &&& ((1 <<< (v2 &&& 31)) ^^^ (-1)))).bind fun h9 =>
      mm_run p_Md_removed mm_fu 47 [.ref t, .int v1, .int v2, .int x6, .int 0] [] h9 := (mm_ga_is rfl).trans ((mm_gd_is hb).trans (e_Md_removed_0 mm_fu t v1 v2 h))
set_option maxRecDepth 100000 in
theorem e_Md_removed_47 (f : Nat) (t : Nat) (v1 : Int32) (v2 : Int32) (v3 : Int32) (v4 : Int32) (h : mm_H) : mm_run p_Md_removed (f + 1) 47 [.ref t, .int v1, .int v2, .int v3, .int v4] [] h =
  (mm_gr 12 14 h t).bind fun r1 =>
  (mm_li h r1 (v1 + 4)).bind fun x2 =>
  if v4 < x2 then
    (mm_gr 12 14 h t).bind fun r3 =>
    (mm_li h r3 ((v1 + 55) + v4)).bind fun x4 =>
    if x4 = v3 then
      mm_ci (f_Md_visible [.ref t, .int v1] h) fun x6 h5 =>
      mm_ci (f_Md_having [.ref t, .int v1, .int x6, .int 0, .int v3] h5) fun x8 h7 =>
      if x8 = 0 then
        mm_cv (f_Md_letsGo [.ref t, .int v1, .int v4] h7) fun h9 =>
        mm_run p_Md_removed f 47 [.ref t, .int v1, .int v2, .int v3, .int (v4 + 1)] [] h9
      else
        mm_run p_Md_removed f 47 [.ref t, .int v1, .int v2, .int v3, .int (v4 + 1)] [] h7
    else
      mm_run p_Md_removed f 47 [.ref t, .int v1, .int v2, .int v3, .int (v4 + 1)] [] h
  else
    mm_run p_Md_removed f 107 [.ref t, .int v1, .int v2, .int 0] [] h := rfl
set_option maxRecDepth 100000 in
theorem e_Md_removed_107 (f : Nat) (t : Nat) (v1 : Int32) (v2 : Int32) (v4 : Int32) (h : mm_H) : mm_run p_Md_removed (f + 1) 107 [.ref t, .int v1, .int v2, .int v4] [] h =
  mm_ci (f_Md_indexes [.ref t] h) fun x2 h1 =>
  if v4 < x2 then
    mm_ci (f_Md_belongs [.ref t, .int v1, .int v4, .int v2] h1) fun x4 h3 =>
    if x4 = 0 then
      mm_run p_Md_removed f 107 [.ref t, .int v1, .int v2, .int (v4 + 1)] [] h3
    else
      mm_ci (f_Md_columnAt [.ref t, .int v4] h3) fun x6 h5 =>
      mm_ci (f_Md_valueOf [.ref t, .int v1, .int v2, .int x6] h5) fun x8 h7 =>
      mm_cv (f_Md_leavesIndex [.ref t, .int v1, .int v4, .int v2, .int x8] h7) fun h9 =>
      mm_run p_Md_removed f 107 [.ref t, .int v1, .int v2, .int (v4 + 1)] [] h9
  else
    some (some (.int 1), h1) := rfl
set_option maxRecDepth 100000 in
theorem i_Md_removed (l : Launch) : mm_Imp l yX12_removed cX12_removed 5 (some .boolean) 8 f_Md_removed := mm_imp l (P := p_Md_removed) mm_cls_ok mm_sys_ok (by decide) (mm_Pok_of (List.forall_mem_cons.mpr ⟨k_X12_123, (fun _ h => absurd h List.not_mem_nil)⟩) (List.forall_mem_cons.mpr ⟨v_Md_indexes l q_1741 (by decide), (List.forall_mem_cons.mpr ⟨v_Md_visible l q_1772 (by decide), (List.forall_mem_cons.mpr ⟨v_Md_valueOf l q_1761 (by decide), (List.forall_mem_cons.mpr ⟨v_Md_having l q_1776 (by decide), (List.forall_mem_cons.mpr ⟨v_Md_letsGo l q_2114 (by decide), (List.forall_mem_cons.mpr ⟨v_Md_columnAt l q_1787 (by decide), (List.forall_mem_cons.mpr ⟨v_Md_belongs l q_1745 (by decide), (List.forall_mem_cons.mpr ⟨v_Md_isVisible l q_2106 (by decide), (List.forall_mem_cons.mpr ⟨v_Md_canGo l q_2110 (by decide), (List.forall_mem_cons.mpr ⟨v_Md_leavesIndex l q_2118 (by decide), (fun _ h => absurd h List.not_mem_nil)⟩)⟩)⟩)⟩)⟩)⟩)⟩)⟩)⟩)⟩) (fun _ h => absurd h List.not_mem_nil) (fun _ h => absurd h List.not_mem_nil)) (by decide +kernel) rfl (cats := [1, 1, 1]) (fun as h r e => ⟨(mm_ga_inv e).1, (mm_gd_inv (mm_ga_inv e).2).1⟩) rfl (by decide)
theorem v_Md_removed (l : Launch) {own : String} {i n0 : Nat} (hl : Cond.methodLink own i yX12_removed ∈ mm_tbl) (hn : 9 ≤ n0) : mm_cok l own n0 i (0, 2, 1, f_Md_removed) := Or.inr (Or.inr ⟨rfl, yX12_removed, cX12_removed, 5, (some .boolean), 8, 12, TX12, 27, i_Md_removed l, hn, by decide, by decide +kernel, rfl, fun _ _ _ e => (mm_gd_inv (mm_ga_inv e).2).2, hl, q_2104, q_111, q_179, q_2105⟩)
def p_Md_with : mm_P := ([(0, .iload_n 1, 1, 0), (1, .ifCond .ne 7, 3, 0), (4, .iconst 1, 1, 1), (5, .goto 16, 3, 0), (8, .iload_n 1, 1, 0), (9, .iconst 1, 1, 1), (10, .if_icmp .ne 9, 3, 0), (13, .sipush 1000, 3, 1000), (16, .goto 5, 3, 0), (19, .ldc 190, 2, 0), (21, .istore_n 3, 1, 0), (22, .iload_n 0, 1, 0), (23, .iload_n 2, 1, 0), (24, .iload_n 0, 1, 0), (25, .iload_n 1, 1, 0), (26, .invokestatic 242, 3, 0), (29, .isub, 1, 0), (30, .iload_n 3, 1, 0), (31, .imul, 1, 0), (32, .iadd, 1, 0), (33, .ireturn, 1, 0)], [], [(242, 1, 2, 1, f_Md_columnOf)], [(190, 1000000)], [], [(0, [0, 1, 2])], [], 2)
def f_Md_with : mm_F := fun args h => mm_ga [1, 1, 1] args (mm_run p_Md_with (mm_fu + 1) 0 args [] h)
set_option maxRecDepth 100000 in
theorem e_Md_with_0 (f : Nat) (v0 : Int32) (v1 : Int32) (v2 : Int32) (h : mm_H) : mm_run p_Md_with (f + 1) 0 [.int v0, .int v1, .int v2] [] h =
  if v1 = 0 then
    mm_ci (f_Md_columnOf [.int v0, .int v1] h) fun x2 h1 =>
    some (some (.int (v0 + ((v2 - x2) * 1))), h1)
  else
    if v1 = 1 then
      mm_ci (f_Md_columnOf [.int v0, .int v1] h) fun x4 h3 =>
      some (some (.int (v0 + ((v2 - x4) * 1000))), h3)
    else
      mm_ci (f_Md_columnOf [.int v0, .int v1] h) fun x6 h5 =>
      some (some (.int (v0 + ((v2 - x6) * 1000000))), h5) := rfl
theorem e_Md_with (v0 : Int32) (v1 : Int32) (v2 : Int32) (h : mm_H) : f_Md_with [.int v0, .int v1, .int v2] h =
  if v1 = 0 then
    mm_ci (f_Md_columnOf [.int v0, .int v1] h) fun x2 h1 =>
    some (some (.int (v0 + ((v2 - x2) * 1))), h1)
  else
    if v1 = 1 then
      mm_ci (f_Md_columnOf [.int v0, .int v1] h) fun x4 h3 =>
      some (some (.int (v0 + ((v2 - x4) * 1000))), h3)
    else
      mm_ci (f_Md_columnOf [.int v0, .int v1] h) fun x6 h5 =>
      some (some (.int (v0 + ((v2 - x6) * 1000000))), h5) := (mm_ga_is rfl).trans (e_Md_with_0 mm_fu v0 v1 v2 h)
set_option maxRecDepth 100000 in
theorem i_Md_with (l : Launch) : mm_Imp l yX12_with cX12_with 4 (some .int) 2 f_Md_with := mm_imp l (P := p_Md_with) mm_cls_ok mm_sys_ok (by decide) (mm_Pok_of (fun _ h => absurd h List.not_mem_nil) (List.forall_mem_cons.mpr ⟨v_Md_columnOf l (Or.inl q_1765) (by decide), (fun _ h => absurd h List.not_mem_nil)⟩) (List.forall_mem_cons.mpr ⟨q_1768, (fun _ h => absurd h List.not_mem_nil)⟩) (fun _ h => absurd h List.not_mem_nil)) (by decide +kernel) rfl (cats := [1, 1, 1]) (fun as h r e => ⟨(mm_ga_inv e).1, (mm_ga_inv e).2⟩) rfl (by decide)
theorem v_Md_with (l : Launch) {own : String} {i n0 : Nat} (hl : Cond.methodLink own i yX12_with ∈ mm_tbl ∨ ∃ host, Cond.methodLinkNest own i yX12_with host ∈ mm_nest) (hn : 3 ≤ n0) : mm_cok l own n0 i (1, 3, 1, f_Md_with) := Or.inr (Or.inl ⟨rfl, yX12_with, cX12_with, 4, (some .int), 2, i_Md_with l, hn, by decide, by decide +kernel, hl, q_2144, q_179, q_2145⟩)
def p_Md_changed : mm_P := ([(0, .aload_n 0, 1, 0), (1, .iload_n 1, 1, 0), (2, .iload_n 2, 1, 0), (3, .invokevirtual 434, 3, 0), (6, .ifCond .ne 5, 3, 0), (9, .iconst 0, 1, 0), (10, .ireturn, 1, 0), (11, .aload_n 0, 1, 0), (12, .iload_n 1, 1, 0), (13, .iload_n 2, 1, 0), (14, .iload_n 3, 1, 0), (15, .invokevirtual 286, 3, 0), (18, .istore 5, 2, 0), (20, .aload_n 0, 1, 0), (21, .iload_n 1, 1, 0), (22, .aload_n 0, 1, 0), (23, .iload_n 1, 1, 0), (24, .invokevirtual 279, 3, 0), (27, .iload_n 3, 1, 0), (28, .iload 5, 2, 0), (30, .invokevirtual 289, 3, 0), (33, .iconst 1, 1, 1), (34, .iload_n 2, 1, 0), (35, .ishl, 1, 0), (36, .iconst (-1), 1, (-1)), (37, .ixor, 1, 0), (38, .iand, 1, 0), (39, .ifCond .ne 7, 3, 0), (42, .iconst 1, 1, 1), (43, .goto 4, 3, 0), (46, .iconst 0, 1, 0), (47, .istore 6, 2, 0), (49, .iload 4, 2, 0), (51, .iload 5, 2, 0), (53, .if_icmp .eq 36, 3, 0), (56, .aload_n 0, 1, 0), (57, .iload_n 1, 1, 0), (58, .iload_n 3, 1, 0), (59, .iload 4, 2, 0), (61, .iload_n 2, 1, 0), (62, .invokevirtual 420, 3, 0), (65, .ifCond .ne 22, 3, 0), (68, .iload_n 3, 1, 0), (69, .ifCond .ne 20, 3, 0), (72, .iload 6, 2, 0), (74, .ifCond .eq 15, 3, 0), (77, .aload_n 0, 1, 0), (78, .iload_n 1, 1, 0), (79, .iload 5, 2, 0), (81, .invokevirtual 293, 3, 0), (84, .ifCond .eq 5, 3, 0), (87, .iconst 0, 1, 0), (88, .ireturn, 1, 0), (89, .iconst 0, 1, 0), (90, .istore 7, 2, 0), (92, .iload 7, 2, 0), (94, .aload_n 0, 1, 0), (95, .invokevirtual 268, 3, 0), (98, .if_icmp .ge 43, 3, 0), (101, .aload_n 0, 1, 0), (102, .getfield 126, 3, 0), (105, .iload 7, 2, 0), (107, .aload_n 0, 1, 0), (108, .iload_n 1, 1, 0), (109, .iload 7, 2, 0), (111, .iload_n 2, 1, 0), (112, .invokevirtual 423, 3, 0), (115, .bastore, 1, 0), (116, .aload_n 0, 1, 0), (117, .getfield 130, 3, 0), (120, .iload 7, 2, 0), (122, .aload_n 0, 1, 0), (123, .iload_n 1, 1, 0), (124, .iload_n 2, 1, 0), (125, .aload_n 0, 1, 0), (126, .iload 7, 2, 0), (128, .invokevirtual 411, 3, 0), (131, .invokevirtual 286, 3, 0), (134, .iastore, 1, 0), (135, .iinc 7 1, 3, 1), (138, .goto (-46), 3, 0), (141, .aload_n 0, 1, 0), (142, .getfield 123, 3, 0), (145, .iload_n 1, 1, 0), (146, .bipush 13, 2, 13), (148, .iadd, 1, 0), (149, .iload_n 2, 1, 0), (150, .iadd, 1, 0), (151, .iaload, 1, 0), (152, .istore 7, 2, 0), (154, .aload_n 0, 1, 0), (155, .getfield 123, 3, 0), (158, .iload_n 1, 1, 0), (159, .bipush 13, 2, 13), (161, .iadd, 1, 0), (162, .iload_n 2, 1, 0), (163, .iadd, 1, 0), (164, .iload 7, 2, 0), (166, .iload_n 3, 1, 0), (167, .iload 4, 2, 0), (169, .invokestatic 443, 3, 0), (172, .iastore, 1, 0), (173, .iconst 0, 1, 0), (174, .istore 8, 2, 0), (176, .iconst 0, 1, 0), (177, .istore 9, 2, 0), (179, .iload 9, 2, 0), (181, .aload_n 0, 1, 0), (182, .invokevirtual 268, 3, 0), (185, .if_icmp .ge 88, 3, 0), (188, .aload_n 0, 1, 0), (189, .getfield 126, 3, 0), (192, .iload 9, 2, 0), (194, .baload, 1, 0), (195, .ifCond .eq 40, 3, 0), (198, .aload_n 0, 1, 0), (199, .iload_n 1, 1, 0), (200, .iload 9, 2, 0), (202, .iload_n 2, 1, 0), (203, .invokevirtual 423, 3, 0), (206, .ifCond .eq 29, 3, 0), (209, .aload_n 0, 1, 0), (210, .getfield 130, 3, 0), (213, .iload 9, 2, 0), (215, .iaload, 1, 0), (216, .aload_n 0, 1, 0), (217, .iload_n 1, 1, 0), (218, .iload_n 2, 1, 0), (219, .aload_n 0, 1, 0), (220, .iload 9, 2, 0), (222, .invokevirtual 411, 3, 0), (225, .invokevirtual 286, 3, 0), (228, .if_icmp .ne 7, 3, 0), (231, .iconst 1, 1, 1), (232, .goto 4, 3, 0), (235, .iconst 0, 1, 0), (236, .istore 10, 2, 0), (238, .iload 8, 2, 0), (240, .aload_n 0, 1, 0), (241, .iload_n 1, 1, 0), (242, .iload 9, 2, 0), (244, .aload_n 0, 1, 0), (245, .getfield 126, 3, 0), (248, .iload 9, 2, 0), (250, .baload, 1, 0), (251, .aload_n 0, 1, 0), (252, .iload_n 1, 1, 0), (253, .iload 9, 2, 0), (255, .iload_n 2, 1, 0), (256, .invokevirtual 423, 3, 0), (259, .iload 10, 2, 0), (261, .invokevirtual 426, 3, 0), (264, .iadd, 1, 0), (265, .istore 8, 2, 0), (267, .iinc 9 1, 3, 1), (270, .goto (-91), 3, 0), (273, .aload_n 0, 1, 0), (274, .getfield 123, 3, 0), (277, .iload_n 1, 1, 0), (278, .bipush 12, 2, 12), (280, .iadd, 1, 0), (281, .iaload, 1, 0), (282, .aload_n 0, 1, 0), (283, .getfield 123, 3, 0), (286, .iload_n 1, 1, 0), (287, .iconst 5, 1, 5), (288, .iadd, 1, 0), (289, .iaload, 1, 0), (290, .imul, 1, 0), (291, .iload 8, 2, 0), (293, .iadd, 1, 0), (294, .bipush 40, 2, 40), (296, .if_icmp .le 18, 3, 0), (299, .aload_n 0, 1, 0), (300, .getfield 123, 3, 0), (303, .iload_n 1, 1, 0), (304, .bipush 13, 2, 13), (306, .iadd, 1, 0), (307, .iload_n 2, 1, 0), (308, .iadd, 1, 0), (309, .iload 7, 2, 0), (311, .iastore, 1, 0), (312, .iconst 0, 1, 0), (313, .ireturn, 1, 0), (314, .iconst 0, 1, 0), (315, .istore 9, 2, 0), (317, .iload 9, 2, 0), (319, .aload_n 0, 1, 0), (320, .invokevirtual 268, 3, 0), (323, .if_icmp .ge 112, 3, 0), (326, .aload_n 0, 1, 0), (327, .iload_n 1, 1, 0), (328, .iload_n 2, 1, 0), (329, .aload_n 0, 1, 0), (330, .iload 9, 2, 0), (332, .invokevirtual 411, 3, 0), (335, .invokevirtual 286, 3, 0), (338, .istore 10, 2, 0), (340, .aload_n 0, 1, 0), (341, .iload_n 1, 1, 0), (342, .iload 9, 2, 0), (344, .iload_n 2, 1, 0), (345, .invokevirtual 423, 3, 0), (348, .istore 11, 2, 0), (350, .aload_n 0, 1, 0), (351, .getfield 126, 3, 0), (354, .iload 9, 2, 0), (356, .baload, 1, 0), (357, .ifCond .eq 35, 3, 0), (360, .iload 11, 2, 0), (362, .ifCond .eq 15, 3, 0), (365, .iload 10, 2, 0), (367, .aload_n 0, 1, 0), (368, .getfield 130, 3, 0), (371, .iload 9, 2, 0), (373, .iaload, 1, 0), (374, .if_icmp .eq 18, 3, 0), (377, .aload_n 0, 1, 0), (378, .iload_n 1, 1, 0), (379, .iload 9, 2, 0), (381, .iload_n 2, 1, 0), (382, .aload_n 0, 1, 0), (383, .getfield 130, 3, 0), (386, .iload 9, 2, 0), (388, .iaload, 1, 0), (389, .invokevirtual 440, 3, 0), (392, .iload 11, 2, 0), (394, .ifCond .eq 35, 3, 0), (397, .aload_n 0, 1, 0), (398, .getfield 126, 3, 0), (401, .iload 9, 2, 0), (403, .baload, 1, 0), (404, .ifCond .eq 15, 3, 0), (407, .iload 10, 2, 0), (409, .aload_n 0, 1, 0), (410, .getfield 130, 3, 0), (413, .iload 9, 2, 0), (415, .iaload, 1, 0), (416, .if_icmp .eq 13, 3, 0), (419, .aload_n 0, 1, 0), (420, .iload_n 1, 1, 0), (421, .iload 9, 2, 0), (423, .iload_n 2, 1, 0), (424, .iload 10, 2, 0), (426, .invokevirtual 430, 3, 0), (429, .iinc 9 1, 3, 1), (432, .goto (-115), 3, 0), (435, .iconst 1, 1, 1), (436, .ireturn, 1, 0)], [(123, 12, 14, 4), (126, 12, 22, 4), (130, 12, 23, 4)], [(268, 0, 0, 1, f_Md_indexes), (279, 0, 1, 1, f_Md_visible), (286, 0, 3, 1, f_Md_valueOf), (289, 0, 4, 1, f_Md_having), (293, 0, 2, 1, f_Md_isPointed), (411, 0, 1, 1, f_Md_columnAt), (420, 0, 4, 1, f_Md_onceClash), (423, 0, 3, 1, f_Md_belongs), (426, 0, 5, 1, f_Md_asideBy), (430, 0, 4, 0, f_Md_entersIndex), (434, 0, 2, 1, f_Md_isVisible), (440, 0, 4, 0, f_Md_leavesIndex), (443, 1, 3, 1, f_Md_with)], [], [], [(0, [0, 1, 2, 3, 4]), (92, [0, 1, 2, 3, 4, 7]), (179, [0, 1, 2, 7, 8, 9]), (317, [0, 1, 2, 9]), (392, [0, 1, 2, 9, 10, 11])], [], 1)
def f_Md_changed : mm_F := fun args h => mm_ga [1, 1, 1, 1, 1] args (mm_gd 12 args h (mm_run p_Md_changed (mm_fu + 1) 0 args [] h))
set_option maxRecDepth 100000 in
theorem e_Md_changed_0 (f : Nat) (t : Nat) (v1 : Int32) (v2 : Int32) (v3 : Int32) (v4 : Int32) (h : mm_H) : mm_run p_Md_changed (f + 1) 0 [.ref t, .int v1, .int v2, .int v3, .int v4] [] h =
  mm_ci (f_Md_isVisible [.ref t, .int v1, .int v2] h) fun x2 h1 =>
  if x2 = 0 then
    some (some (.int 0), h1)
  else
    mm_ci (f_Md_valueOf [.ref t, .int v1, .int v2, .int v3] h1) fun x4 h3 =>
    mm_ci (f_Md_visible [.ref t, .int v1] h3) fun x6 h5 =>
    mm_ci (f_Md_having [.ref t, .int v1, .int x6, .int v3, .int x4] h5) fun x8 h7 =>
    if (x8 &&& ((1 <<< (v2 &&& 31)) ^^^ (-1))) = 0 then
      if v4 = x4 then
        mm_run p_Md_changed f 92 [.ref t, .int v1, .int v2, .int v3, .int v4, .int 0] [] h7
      else
        mm_ci (f_Md_onceClash [.ref t, .int v1, .int v3, .int v4, .int v2] h7) fun x10 h9 =>
        if x10 = 0 then
          if v3 = 0 then
            mm_ci (f_Md_isPointed [.ref t, .int v1, .int x4] h9) fun x12 h11 =>
            if x12 = 0 then
              mm_run p_Md_changed f 92 [.ref t, .int v1, .int v2, .int v3, .int v4, .int 0] [] h11
            else
              some (some (.int 0), h11)
          else
            mm_run p_Md_changed f 92 [.ref t, .int v1, .int v2, .int v3, .int v4, .int 0] [] h9
        else
          some (some (.int 0), h9)
    else
      if v4 = x4 then
        mm_run p_Md_changed f 92 [.ref t, .int v1, .int v2, .int v3, .int v4, .int 0] [] h7
      else
        mm_ci (f_Md_onceClash [.ref t, .int v1, .int v3, .int v4, .int v2] h7) fun x14 h13 =>
        if x14 = 0 then
          if v3 = 0 then
            mm_run p_Md_changed f 92 [.ref t, .int v1, .int v2, .int v3, .int v4, .int 0] [] h13
          else
            mm_run p_Md_changed f 92 [.ref t, .int v1, .int v2, .int v3, .int v4, .int 0] [] h13
        else
          some (some (.int 0), h13) := rfl
theorem e_Md_changed (t : Nat) (v1 : Int32) (v2 : Int32) (v3 : Int32) (v4 : Int32) (h : mm_H) {fs : List Value} (hb : h t = some (.inr (12, fs))) : f_Md_changed [.ref t, .int v1, .int v2, .int v3, .int v4] h =
  mm_ci (f_Md_isVisible [.ref t, .int v1, .int v2] h) fun x2 h1 =>
  if x2 = 0 then
    some (some (.int 0), h1)
  else
    mm_ci (f_Md_valueOf [.ref t, .int v1, .int v2, .int v3] h1) fun x4 h3 =>
    mm_ci (f_Md_visible [.ref t, .int v1] h3) fun x6 h5 =>
    mm_ci (f_Md_having [.ref t, .int v1, .int x6, .int v3, .int x4] h5) fun x8 h7 =>
    if (x8 &&& ((1 <<< (v2 &&& 31)) ^^^ (-1))) = 0 then
      if v4 = x4 then
        mm_run p_Md_changed mm_fu 92 [.ref t, .int v1, .int v2, .int v3, .int v4, .int 0] [] h7
      else
        mm_ci (f_Md_onceClash [.ref t, .int v1, .int v3, .int v4, .int v2] h7) fun x10 h9 =>
        if x10 = 0 then
          if v3 = 0 then
            mm_ci (f_Md_isPointed [.ref t, .int v1, .int x4] h9) fun x12 h11 =>
            if x12 = 0 then
              mm_run p_Md_changed mm_fu 92 [.ref t, .int v1, .int v2, .int v3, .int v4, .int 0] [] h11
            else
              some (some (.int 0), h11)
          else
            mm_run p_Md_changed mm_fu 92 [.ref t, .int v1, .int v2, .int v3, .int v4, .int 0] [] h9
        else
          some (some (.int 0), h9)
    else
      if v4 = x4 then
        mm_run p_Md_changed mm_fu 92 [.ref t, .int v1, .int v2, .int v3, .int v4, .int 0] [] h7
      else
        mm_ci (f_Md_onceClash [.ref t, .int v1, .int v3, .int v4, .int v2] h7) fun x14 h13 =>
        if x14 = 0 then
          if v3 = 0 then
            mm_run p_Md_changed mm_fu 92 [.ref t, .int v1, .int v2, .int v3, .int v4, .int 0] [] h13
          else
            mm_run p_Md_changed mm_fu 92 [.ref t, .int v1, .int v2, .int v3, .int v4, .int 0] [] h13
        else
          some (some (.int 0), h13) := (mm_ga_is rfl).trans ((mm_gd_is hb).trans (e_Md_changed_0 mm_fu t v1 v2 v3 v4 h))
set_option maxRecDepth 100000 in
theorem e_Md_changed_92 (f : Nat) (t : Nat) (v1 : Int32) (v2 : Int32) (v3 : Int32) (v4 : Int32) (v7 : Int32) (h : mm_H) : mm_run p_Md_changed (f + 1) 92 [.ref t, .int v1, .int v2, .int v3, .int v4, .int v7] [] h =
  mm_ci (f_Md_indexes [.ref t] h) fun x2 h1 =>
  if v7 < x2 then
    (mm_gr 12 22 h1 t).bind fun r3 =>
    mm_ci (f_Md_belongs [.ref t, .int v1, .int v7, .int v2] h1) fun x5 h4 =>
    (mm_sb h4 r3 v7 x5).bind fun h6 =>
    (mm_gr 12 23 h6 t).bind fun r7 =>
    mm_ci (f_Md_columnAt [.ref t, .int v7] h6) fun x9 h8 =>
    mm_ci (f_Md_valueOf [.ref t, .int v1, .int v2, .int x9] h8) fun x11 h10 =>
    (mm_si h10 r7 v7 x11).bind fun h12 =>
    mm_run p_Md_changed f 92 [.ref t, .int v1, .int v2, .int v3, .int v4, .int (v7 + 1)] [] h12
  else
    (mm_gr 12 14 h1 t).bind fun r13 =>
    (mm_li h1 r13 ((v1 + 13) + v2)).bind fun x14 =>
    (mm_gr 12 14 h1 t).bind fun r15 =>
    mm_ci (f_Md_with [.int x14, .int v3, .int v4] h1) fun x17 h16 =>
    (mm_si h16 r15 ((v1 + 13) + v2) x17).bind fun h18 =>
    mm_run p_Md_changed f 179 [.ref t, .int v1, .int v2, .int x14, .int 0, .int 0] [] h18 := rfl
set_option maxRecDepth 100000 in
theorem e_Md_changed_179 (f : Nat) (t : Nat) (v1 : Int32) (v2 : Int32) (v7 : Int32) (v8 : Int32) (v9 : Int32) (h : mm_H) : mm_run p_Md_changed (f + 1) 179 [.ref t, .int v1, .int v2, .int v7, .int v8, .int v9] [] h =
  mm_ci (f_Md_indexes [.ref t] h) fun x2 h1 =>
  if v9 < x2 then
    (mm_gr 12 22 h1 t).bind fun r3 =>
    (mm_lb h1 r3 v9).bind fun x4 =>
    if x4 = 0 then
      (mm_gr 12 22 h1 t).bind fun r5 =>
      (mm_lb h1 r5 v9).bind fun x6 =>
      mm_ci (f_Md_belongs [.ref t, .int v1, .int v9, .int v2] h1) fun x8 h7 =>
      mm_ci (f_Md_asideBy [.ref t, .int v1, .int v9, .int x6, .int x8, .int 0] h7) fun x10 h9 =>
      mm_run p_Md_changed f 179 [.ref t, .int v1, .int v2, .int v7, .int (v8 + x10), .int (v9 + 1)] [] h9
    else
      mm_ci (f_Md_belongs [.ref t, .int v1, .int v9, .int v2] h1) fun x12 h11 =>
      if x12 = 0 then
        (mm_gr 12 22 h11 t).bind fun r13 =>
        (mm_lb h11 r13 v9).bind fun x14 =>
        mm_ci (f_Md_belongs [.ref t, .int v1, .int v9, .int v2] h11) fun x16 h15 =>
        mm_ci (f_Md_asideBy [.ref t, .int v1, .int v9, .int x14, .int x16, .int 0] h15) fun x18 h17 =>
        mm_run p_Md_changed f 179 [.ref t, .int v1, .int v2, .int v7, .int (v8 + x18), .int (v9 + 1)] [] h17
      else
        (mm_gr 12 23 h11 t).bind fun r19 =>
        (mm_li h11 r19 v9).bind fun x20 =>
        mm_ci (f_Md_columnAt [.ref t, .int v9] h11) fun x22 h21 =>
        mm_ci (f_Md_valueOf [.ref t, .int v1, .int v2, .int x22] h21) fun x24 h23 =>
        if x20 = x24 then
          (mm_gr 12 22 h23 t).bind fun r25 =>
          (mm_lb h23 r25 v9).bind fun x26 =>
          mm_ci (f_Md_belongs [.ref t, .int v1, .int v9, .int v2] h23) fun x28 h27 =>
          mm_ci (f_Md_asideBy [.ref t, .int v1, .int v9, .int x26, .int x28, .int 1] h27) fun x30 h29 =>
          mm_run p_Md_changed f 179 [.ref t, .int v1, .int v2, .int v7, .int (v8 + x30), .int (v9 + 1)] [] h29
        else
          (mm_gr 12 22 h23 t).bind fun r31 =>
          (mm_lb h23 r31 v9).bind fun x32 =>
          mm_ci (f_Md_belongs [.ref t, .int v1, .int v9, .int v2] h23) fun x34 h33 =>
          mm_ci (f_Md_asideBy [.ref t, .int v1, .int v9, .int x32, .int x34, .int 0] h33) fun x36 h35 =>
          mm_run p_Md_changed f 179 [.ref t, .int v1, .int v2, .int v7, .int (v8 + x36), .int (v9 + 1)] [] h35
  else
    (mm_gr 12 14 h1 t).bind fun r37 =>
    (mm_li h1 r37 (v1 + 12)).bind fun x38 =>
    (mm_gr 12 14 h1 t).bind fun r39 =>
    (mm_li h1 r39 (v1 + 5)).bind fun x40 =>
    if (40 : Int32) < ((x38 * x40) + v8) then
      (mm_gr 12 14 h1 t).bind fun r41 =>
      (mm_si h1 r41 ((v1 + 13) + v2) v7).bind fun h42 =>
      some (some (.int 0), h42)
    else
      mm_run p_Md_changed f 317 [.ref t, .int v1, .int v2, .int 0] [] h1 := rfl
set_option maxRecDepth 100000 in
theorem e_Md_changed_317 (f : Nat) (t : Nat) (v1 : Int32) (v2 : Int32) (v9 : Int32) (h : mm_H) : mm_run p_Md_changed (f + 1) 317 [.ref t, .int v1, .int v2, .int v9] [] h =
  mm_ci (f_Md_indexes [.ref t] h) fun x2 h1 =>
  if v9 < x2 then
    mm_ci (f_Md_columnAt [.ref t, .int v9] h1) fun x4 h3 =>
    mm_ci (f_Md_valueOf [.ref t, .int v1, .int v2, .int x4] h3) fun x6 h5 =>
    mm_ci (f_Md_belongs [.ref t, .int v1, .int v9, .int v2] h5) fun x8 h7 =>
    (mm_gr 12 22 h7 t).bind fun r9 =>
    (mm_lb h7 r9 v9).bind fun x10 =>
    if x10 = 0 then
      mm_run p_Md_changed f 392 [.ref t, .int v1, .int v2, .int v9, .int x6, .int x8] [] h7
    else
      if x8 = 0 then
        (mm_gr 12 23 h7 t).bind fun r11 =>
        (mm_li h7 r11 v9).bind fun x12 =>
        mm_cv (f_Md_leavesIndex [.ref t, .int v1, .int v9, .int v2, .int x12] h7) fun h13 =>
        mm_run p_Md_changed f 392 [.ref t, .int v1, .int v2, .int v9, .int x6, .int x8] [] h13
      else
        (mm_gr 12 23 h7 t).bind fun r14 =>
        (mm_li h7 r14 v9).bind fun x15 =>
        if x6 = x15 then
          mm_run p_Md_changed f 392 [.ref t, .int v1, .int v2, .int v9, .int x6, .int x8] [] h7
        else
          (mm_gr 12 23 h7 t).bind fun r16 =>
          (mm_li h7 r16 v9).bind fun x17 =>
          mm_cv (f_Md_leavesIndex [.ref t, .int v1, .int v9, .int v2, .int x17] h7) fun h18 =>
          mm_run p_Md_changed f 392 [.ref t, .int v1, .int v2, .int v9, .int x6, .int x8] [] h18
  else
    some (some (.int 1), h1) := rfl
set_option maxRecDepth 100000 in
theorem e_Md_changed_392 (f : Nat) (t : Nat) (v1 : Int32) (v2 : Int32) (v9 : Int32) (v10 : Int32) (v11 : Int32) (h : mm_H) : mm_run p_Md_changed (f + 1) 392 [.ref t, .int v1, .int v2, .int v9, .int v10, .int v11] [] h =
  if v11 = 0 then
    mm_run p_Md_changed f 317 [.ref t, .int v1, .int v2, .int (v9 + 1)] [] h
  else
    (mm_gr 12 22 h t).bind fun r1 =>
    (mm_lb h r1 v9).bind fun x2 =>
    if x2 = 0 then
      mm_cv (f_Md_entersIndex [.ref t, .int v1, .int v9, .int v2, .int v10] h) fun h3 =>
      mm_run p_Md_changed f 317 [.ref t, .int v1, .int v2, .int (v9 + 1)] [] h3
    else
      (mm_gr 12 23 h t).bind fun r4 =>
      (mm_li h r4 v9).bind fun x5 =>
      if v10 = x5 then
        mm_run p_Md_changed f 317 [.ref t, .int v1, .int v2, .int (v9 + 1)] [] h
      else
        mm_cv (f_Md_entersIndex [.ref t, .int v1, .int v9, .int v2, .int v10] h) fun h6 =>
        mm_run p_Md_changed f 317 [.ref t, .int v1, .int v2, .int (v9 + 1)] [] h6 := rfl
set_option maxRecDepth 100000 in
theorem i_Md_changed (l : Launch) : mm_Imp l yX12_changed cX12_changed 12 (some .boolean) 7 f_Md_changed := mm_imp l (P := p_Md_changed) mm_cls_ok mm_sys_ok (by decide) (mm_Pok_of (List.forall_mem_cons.mpr ⟨k_X12_123, (List.forall_mem_cons.mpr ⟨k_X12_126, (List.forall_mem_cons.mpr ⟨k_X12_130, (fun _ h => absurd h List.not_mem_nil)⟩)⟩)⟩) (List.forall_mem_cons.mpr ⟨v_Md_indexes l q_1741 (by decide), (List.forall_mem_cons.mpr ⟨v_Md_visible l q_1772 (by decide), (List.forall_mem_cons.mpr ⟨v_Md_valueOf l q_1761 (by decide), (List.forall_mem_cons.mpr ⟨v_Md_having l q_1776 (by decide), (List.forall_mem_cons.mpr ⟨v_Md_isPointed l q_1783 (by decide), (List.forall_mem_cons.mpr ⟨v_Md_columnAt l q_1787 (by decide), (List.forall_mem_cons.mpr ⟨v_Md_onceClash l q_2070 (by decide), (List.forall_mem_cons.mpr ⟨v_Md_belongs l q_1745 (by decide), (List.forall_mem_cons.mpr ⟨v_Md_asideBy l q_2074 (by decide), (List.forall_mem_cons.mpr ⟨v_Md_entersIndex l q_2082 (by decide), (List.forall_mem_cons.mpr ⟨v_Md_isVisible l q_2106 (by decide), (List.forall_mem_cons.mpr ⟨v_Md_leavesIndex l q_2118 (by decide), (List.forall_mem_cons.mpr ⟨v_Md_with l (Or.inl q_2143) (by decide), (fun _ h => absurd h List.not_mem_nil)⟩)⟩)⟩)⟩)⟩)⟩)⟩)⟩)⟩)⟩)⟩)⟩)⟩) (fun _ h => absurd h List.not_mem_nil) (fun _ h => absurd h List.not_mem_nil)) (by decide +kernel) rfl (cats := [1, 1, 1, 1, 1]) (fun as h r e => ⟨(mm_ga_inv e).1, (mm_gd_inv (mm_ga_inv e).2).1⟩) rfl (by decide)
theorem v_Md_changed (l : Launch) {own : String} {i n0 : Nat} (hl : Cond.methodLink own i yX12_changed ∈ mm_tbl) (hn : 8 ≤ n0) : mm_cok l own n0 i (0, 4, 1, f_Md_changed) := Or.inr (Or.inr ⟨rfl, yX12_changed, cX12_changed, 12, (some .boolean), 7, 12, TX12, 27, i_Md_changed l, hn, by decide, by decide +kernel, rfl, fun _ _ _ e => (mm_gd_inv (mm_ga_inv e).2).2, hl, q_2141, q_119, q_179, q_2142⟩)
def p_Md_aside : mm_P := ([(0, .aload_n 0, 1, 0), (1, .iconst 0, 1, 0), (2, .sipush 9252, 3, 9252), (5, .sipush 514, 3, 514), (8, .invokevirtual 362, 3, 0), (11, .return_, 1, 0)], [], [(362, 0, 3, 0, f_Md_copies)], [], [], [(0, [0])], [], 0)
def f_Md_aside : mm_F := fun args h => mm_ga [1] args (mm_gd 12 args h (mm_run p_Md_aside (mm_fu + 1) 0 args [] h))
set_option maxRecDepth 100000 in
theorem e_Md_aside_0 (f : Nat) (t : Nat) (h : mm_H) : mm_run p_Md_aside (f + 1) 0 [.ref t] [] h =
  mm_cv (f_Md_copies [.ref t, .int 0, .int 9252, .int 514] h) fun h1 =>
  some (none, h1) := rfl
theorem e_Md_aside (t : Nat) (h : mm_H) {fs : List Value} (hb : h t = some (.inr (12, fs))) : f_Md_aside [.ref t] h =
  mm_cv (f_Md_copies [.ref t, .int 0, .int 9252, .int 514] h) fun h1 =>
  some (none, h1) := (mm_ga_is rfl).trans ((mm_gd_is hb).trans (e_Md_aside_0 mm_fu t h))
set_option maxRecDepth 100000 in
theorem i_Md_aside (l : Launch) : mm_Imp l yX12_aside cX12_aside 1 none 2 f_Md_aside := mm_imp l (P := p_Md_aside) mm_cls_ok mm_sys_ok (by decide) (mm_Pok_of (fun _ h => absurd h List.not_mem_nil) (List.forall_mem_cons.mpr ⟨v_Md_copies l q_2059 (by decide), (fun _ h => absurd h List.not_mem_nil)⟩) (fun _ h => absurd h List.not_mem_nil) (fun _ h => absurd h List.not_mem_nil)) (by decide +kernel) rfl (cats := [1]) (fun as h r e => ⟨(mm_ga_inv e).1, (mm_gd_inv (mm_ga_inv e).2).1⟩) rfl (by decide)
theorem v_Md_aside (l : Launch) {own : String} {i n0 : Nat} (hl : Cond.methodLink own i yX12_aside ∈ mm_tbl) (hn : 3 ≤ n0) : mm_cok l own n0 i (0, 0, 0, f_Md_aside) := Or.inr (Or.inr ⟨rfl, yX12_aside, cX12_aside, 1, none, 2, 12, TX12, 27, i_Md_aside l, hn, by decide, by decide +kernel, rfl, fun _ _ _ e => (mm_gd_inv (mm_ga_inv e).2).2, hl, q_2057, q_101, q_179, q_2058⟩)
def p_Md_keeps : mm_P := ([(0, .aload_n 0, 1, 0), (1, .getfield 449, 3, 0), (4, .bipush 16, 2, 16), (6, .if_icmp .ne 50, 3, 0), (9, .iconst 1, 1, 1), (10, .istore_n 1, 1, 0), (11, .iload_n 1, 1, 0), (12, .bipush 16, 2, 16), (14, .if_icmp .ge 32, 3, 0), (17, .aload_n 0, 1, 0), (18, .sipush 514, 3, 514), (21, .iconst 1, 1, 1), (22, .iload_n 1, 1, 0), (23, .iadd, 1, 0), (24, .imul, 1, 0), (25, .sipush 514, 3, 514), (28, .iconst 1, 1, 1), (29, .iload_n 1, 1, 0), (30, .iadd, 1, 0), (31, .iconst 1, 1, 1), (32, .isub, 1, 0), (33, .imul, 1, 0), (34, .sipush 514, 3, 514), (37, .invokevirtual 362, 3, 0), (40, .iinc 1 1, 3, 1), (43, .goto (-32), 3, 0), (46, .aload_n 0, 1, 0), (47, .dup, 1, 0), (48, .getfield 449, 3, 0), (51, .iconst 1, 1, 1), (52, .isub, 1, 0), (53, .putfield 449, 3, 0), (56, .aload_n 0, 1, 0), (57, .sipush 9252, 3, 9252), (60, .sipush 514, 3, 514), (63, .iconst 1, 1, 1), (64, .aload_n 0, 1, 0), (65, .getfield 449, 3, 0), (68, .iadd, 1, 0), (69, .imul, 1, 0), (70, .sipush 514, 3, 514), (73, .invokevirtual 362, 3, 0), (76, .aload_n 0, 1, 0), (77, .dup, 1, 0), (78, .getfield 449, 3, 0), (81, .iconst 1, 1, 1), (82, .iadd, 1, 0), (83, .putfield 449, 3, 0), (86, .return_, 1, 0)], [(449, 12, 15, 0)], [(362, 0, 3, 0, f_Md_copies)], [], [], [(0, [0]), (11, [0, 1])], [], 0)
def f_Md_keeps : mm_F := fun args h => mm_ga [1] args (mm_gd 12 args h (mm_run p_Md_keeps (mm_fu + 1) 0 args [] h))
set_option maxRecDepth 100000 in
theorem e_Md_keeps_0 (f : Nat) (t : Nat) (h : mm_H) : mm_run p_Md_keeps (f + 1) 0 [.ref t] [] h =
  (mm_gi 12 15 h t).bind fun x1 =>
  if x1 = 16 then
    mm_run p_Md_keeps f 11 [.ref t, .int 1] [] h
  else
    (mm_gi 12 15 h t).bind fun x2 =>
    mm_cv (f_Md_copies [.ref t, .int 9252, .int (514 * (1 + x2)), .int 514] h) fun h3 =>
    (mm_gi 12 15 h3 t).bind fun x4 =>
    (mm_pf 12 15 (.int (x4 + 1)) h3 t).bind fun h5 =>
    some (none, h5) := rfl
theorem e_Md_keeps (t : Nat) (h : mm_H) {fs : List Value} (hb : h t = some (.inr (12, fs))) : f_Md_keeps [.ref t] h =
  (mm_gi 12 15 h t).bind fun x1 =>
  if x1 = 16 then
    mm_run p_Md_keeps mm_fu 11 [.ref t, .int 1] [] h
  else
    (mm_gi 12 15 h t).bind fun x2 =>
    mm_cv (f_Md_copies [.ref t, .int 9252, .int (514 * (1 + x2)), .int 514] h) fun h3 =>
    (mm_gi 12 15 h3 t).bind fun x4 =>
    (mm_pf 12 15 (.int (x4 + 1)) h3 t).bind fun h5 =>
    some (none, h5) := (mm_ga_is rfl).trans ((mm_gd_is hb).trans (e_Md_keeps_0 mm_fu t h))
set_option maxRecDepth 100000 in
theorem e_Md_keeps_11 (f : Nat) (t : Nat) (v1 : Int32) (h : mm_H) : mm_run p_Md_keeps (f + 1) 11 [.ref t, .int v1] [] h =
  if v1 < 16 then
    mm_cv (f_Md_copies [.ref t, .int (514 * (1 + v1)), .int (514 * ((1 + v1) - 1)), .int 514] h) fun h1 =>
    mm_run p_Md_keeps f 11 [.ref t, .int (v1 + 1)] [] h1
  else
    (mm_gi 12 15 h t).bind fun x2 =>
    (mm_pf 12 15 (.int (x2 - 1)) h t).bind fun h3 =>
    (mm_gi 12 15 h3 t).bind fun x4 =>
    mm_cv (f_Md_copies [.ref t, .int 9252, .int (514 * (1 + x4)), .int 514] h3) fun h5 =>
    (mm_gi 12 15 h5 t).bind fun x6 =>
    (mm_pf 12 15 (.int (x6 + 1)) h5 t).bind fun h7 =>
    some (none, h7) := rfl
set_option maxRecDepth 100000 in
theorem i_Md_keeps (l : Launch) : mm_Imp l yX12_keeps cX12_keeps 2 none 2 f_Md_keeps := mm_imp l (P := p_Md_keeps) mm_cls_ok mm_sys_ok (by decide) (mm_Pok_of (List.forall_mem_cons.mpr ⟨k_X12_449, (fun _ h => absurd h List.not_mem_nil)⟩) (List.forall_mem_cons.mpr ⟨v_Md_copies l q_2059 (by decide), (fun _ h => absurd h List.not_mem_nil)⟩) (fun _ h => absurd h List.not_mem_nil) (fun _ h => absurd h List.not_mem_nil)) (by decide +kernel) rfl (cats := [1]) (fun as h r e => ⟨(mm_ga_inv e).1, (mm_gd_inv (mm_ga_inv e).2).1⟩) rfl (by decide)
theorem v_Md_keeps (l : Launch) {own : String} {i n0 : Nat} (hl : Cond.methodLink own i yX12_keeps ∈ mm_tbl) (hn : 3 ≤ n0) : mm_cok l own n0 i (0, 0, 0, f_Md_keeps) := Or.inr (Or.inr ⟨rfl, yX12_keeps, cX12_keeps, 2, none, 2, 12, TX12, 27, i_Md_keeps l, hn, by decide, by decide +kernel, rfl, fun _ _ _ e => (mm_gd_inv (mm_ga_inv e).2).2, hl, q_2096, q_110, q_179, q_2097⟩)
def p_Md_done : mm_P := ([(0, .iload_n 1, 1, 0), (1, .iconst (-1), 1, (-1)), (2, .if_icmp .eq 7, 3, 0), (5, .aload_n 0, 1, 0), (6, .invokevirtual 455, 3, 0), (9, .iload_n 1, 1, 0), (10, .ireturn, 1, 0)], [], [(455, 0, 0, 0, f_Md_keeps)], [], [], [(0, [0, 1])], [], 2)
def f_Md_done : mm_F := fun args h => mm_ga [1, 1] args (mm_gd 12 args h (mm_run p_Md_done (mm_fu + 1) 0 args [] h))
set_option maxRecDepth 100000 in
theorem e_Md_done_0 (f : Nat) (t : Nat) (v1 : Int32) (h : mm_H) : mm_run p_Md_done (f + 1) 0 [.ref t, .int v1] [] h =
  if v1 = (-1) then
    some (some (.int v1), h)
  else
    mm_cv (f_Md_keeps [.ref t] h) fun h1 =>
    some (some (.int v1), h1) := rfl
theorem e_Md_done (t : Nat) (v1 : Int32) (h : mm_H) {fs : List Value} (hb : h t = some (.inr (12, fs))) : f_Md_done [.ref t, .int v1] h =
  if v1 = (-1) then
    some (some (.int v1), h)
  else
    mm_cv (f_Md_keeps [.ref t] h) fun h1 =>
    some (some (.int v1), h1) := (mm_ga_is rfl).trans ((mm_gd_is hb).trans (e_Md_done_0 mm_fu t v1 h))
set_option maxRecDepth 100000 in
theorem i_Md_done (l : Launch) : mm_Imp l yX12_done cX12_done 2 (some .int) 3 f_Md_done := mm_imp l (P := p_Md_done) mm_cls_ok mm_sys_ok (by decide) (mm_Pok_of (fun _ h => absurd h List.not_mem_nil) (List.forall_mem_cons.mpr ⟨v_Md_keeps l q_2094 (by decide), (fun _ h => absurd h List.not_mem_nil)⟩) (fun _ h => absurd h List.not_mem_nil) (fun _ h => absurd h List.not_mem_nil)) (by decide +kernel) rfl (cats := [1, 1]) (fun as h r e => ⟨(mm_ga_inv e).1, (mm_gd_inv (mm_ga_inv e).2).1⟩) rfl (by decide)
theorem v_Md_done (l : Launch) {own : String} {i n0 : Nat} (hl : Cond.methodLink own i yX12_done ∈ mm_tbl) (hn : 4 ≤ n0) : mm_cok l own n0 i (0, 1, 1, f_Md_done) := Or.inr (Or.inr ⟨rfl, yX12_done, cX12_done, 2, (some .int), 3, 12, TX12, 27, i_Md_done l, hn, by decide, by decide +kernel, rfl, fun _ _ _ e => (mm_gd_inv (mm_ga_inv e).2).2, hl, q_2092, q_109, q_179, q_2093⟩)
def p_Md_isDone : mm_P := ([(0, .iload_n 1, 1, 0), (1, .ifCond .eq 7, 3, 0), (4, .aload_n 0, 1, 0), (5, .invokevirtual 455, 3, 0), (8, .iload_n 1, 1, 0), (9, .ireturn, 1, 0)], [], [(455, 0, 0, 0, f_Md_keeps)], [], [], [(0, [0, 1])], [], 1)
def f_Md_isDone : mm_F := fun args h => mm_ga [1, 1] args (mm_gd 12 args h (mm_run p_Md_isDone (mm_fu + 1) 0 args [] h))
set_option maxRecDepth 100000 in
theorem e_Md_isDone_0 (f : Nat) (t : Nat) (v1 : Int32) (h : mm_H) : mm_run p_Md_isDone (f + 1) 0 [.ref t, .int v1] [] h =
  if v1 = 0 then
    if v1 = 0 ∨ v1 = 1 then some (some (.int v1), h) else none
  else
    mm_cv (f_Md_keeps [.ref t] h) fun h1 =>
    if v1 = 0 ∨ v1 = 1 then some (some (.int v1), h1) else none := rfl
theorem e_Md_isDone (t : Nat) (v1 : Int32) (h : mm_H) {fs : List Value} (hb : h t = some (.inr (12, fs))) : f_Md_isDone [.ref t, .int v1] h =
  if v1 = 0 then
    if v1 = 0 ∨ v1 = 1 then some (some (.int v1), h) else none
  else
    mm_cv (f_Md_keeps [.ref t] h) fun h1 =>
    if v1 = 0 ∨ v1 = 1 then some (some (.int v1), h1) else none := (mm_ga_is rfl).trans ((mm_gd_is hb).trans (e_Md_isDone_0 mm_fu t v1 h))
set_option maxRecDepth 100000 in
theorem i_Md_isDone (l : Launch) : mm_Imp l yX12_isDone cX12_isDone 2 (some .boolean) 3 f_Md_isDone := mm_imp l (P := p_Md_isDone) mm_cls_ok mm_sys_ok (by decide) (mm_Pok_of (fun _ h => absurd h List.not_mem_nil) (List.forall_mem_cons.mpr ⟨v_Md_keeps l q_2094 (by decide), (fun _ h => absurd h List.not_mem_nil)⟩) (fun _ h => absurd h List.not_mem_nil) (fun _ h => absurd h List.not_mem_nil)) (by decide +kernel) rfl (cats := [1, 1]) (fun as h r e => ⟨(mm_ga_inv e).1, (mm_gd_inv (mm_ga_inv e).2).1⟩) rfl (by decide)
theorem v_Md_isDone (l : Launch) {own : String} {i n0 : Nat} (hl : Cond.methodLink own i yX12_isDone ∈ mm_tbl) (hn : 4 ≤ n0) : mm_cok l own n0 i (0, 1, 1, f_Md_isDone) := Or.inr (Or.inr ⟨rfl, yX12_isDone, cX12_isDone, 2, (some .boolean), 3, 12, TX12, 27, i_Md_isDone l, hn, by decide, by decide +kernel, rfl, fun _ _ _ e => (mm_gd_inv (mm_ga_inv e).2).2, hl, q_2133, q_118, q_179, q_2134⟩)
def p_Md_isValue : mm_P := ([(0, .iload_n 0, 1, 0), (1, .iconst 0, 1, 0), (2, .sipush 999, 3, 999), (5, .invokestatic 275, 3, 0), (8, .ireturn, 1, 0)], [], [(275, 1, 3, 1, f_Md_within)], [], [], [(0, [0])], [], 1)
def f_Md_isValue : mm_F := fun args h => mm_ga [1] args (mm_run p_Md_isValue (mm_fu + 1) 0 args [] h)
set_option maxRecDepth 100000 in
theorem e_Md_isValue_0 (f : Nat) (v0 : Int32) (h : mm_H) : mm_run p_Md_isValue (f + 1) 0 [.int v0] [] h =
  mm_ci (f_Md_within [.int v0, .int 0, .int 999] h) fun x2 h1 =>
  if x2 = 0 ∨ x2 = 1 then some (some (.int x2), h1) else none := rfl
theorem e_Md_isValue (v0 : Int32) (h : mm_H) : f_Md_isValue [.int v0] h =
  mm_ci (f_Md_within [.int v0, .int 0, .int 999] h) fun x2 h1 =>
  if x2 = 0 ∨ x2 = 1 then some (some (.int x2), h1) else none := (mm_ga_is rfl).trans (e_Md_isValue_0 mm_fu v0 h)
set_option maxRecDepth 100000 in
theorem i_Md_isValue (l : Launch) : mm_Imp l yX12_isValue cX12_isValue 1 (some .boolean) 2 f_Md_isValue := mm_imp l (P := p_Md_isValue) mm_cls_ok mm_sys_ok (by decide) (mm_Pok_of (fun _ h => absurd h List.not_mem_nil) (List.forall_mem_cons.mpr ⟨v_Md_within l (Or.inl q_1769) (by decide), (fun _ h => absurd h List.not_mem_nil)⟩) (fun _ h => absurd h List.not_mem_nil) (fun _ h => absurd h List.not_mem_nil)) (by decide +kernel) rfl (cats := [1]) (fun as h r e => ⟨(mm_ga_inv e).1, (mm_ga_inv e).2⟩) rfl (by decide)
theorem v_Md_isValue (l : Launch) {own : String} {i n0 : Nat} (hl : Cond.methodLink own i yX12_isValue ∈ mm_tbl ∨ ∃ host, Cond.methodLinkNest own i yX12_isValue host ∈ mm_nest) (hn : 3 ≤ n0) : mm_cok l own n0 i (1, 1, 1, f_Md_isValue) := Or.inr (Or.inl ⟨rfl, yX12_isValue, cX12_isValue, 1, (some .boolean), 2, i_Md_isValue l, hn, by decide, by decide +kernel, hl, q_2064, q_179, q_2065⟩)
def p_Md_insert : mm_P := ([(0, .aload_n 0, 1, 0), (1, .iconst 0, 1, 0), (2, .putfield 1, 3, 0), (5, .aload_n 0, 1, 0), (6, .invokevirtual 458, 3, 0), (9, .iload_n 1, 1, 0), (10, .invokestatic 461, 3, 0), (13, .ifCond .eq 28, 3, 0), (16, .iload_n 2, 1, 0), (17, .invokestatic 461, 3, 0), (20, .ifCond .eq 21, 3, 0), (23, .iload_n 3, 1, 0), (24, .invokestatic 461, 3, 0), (27, .ifCond .eq 14, 3, 0), (30, .aload_n 0, 1, 0), (31, .iconst 0, 1, 0), (32, .iload_n 1, 1, 0), (33, .iload_n 2, 1, 0), (34, .iload_n 3, 1, 0), (35, .invokevirtual 464, 3, 0), (38, .goto 4, 3, 0), (41, .iconst (-1), 1, (-1)), (42, .istore 4, 2, 0), (44, .aload_n 0, 1, 0), (45, .iload 4, 2, 0), (47, .invokevirtual 467, 3, 0), (50, .ireturn, 1, 0)], [(1, 12, 0, 0)], [(458, 0, 0, 0, f_Md_aside), (461, 1, 1, 1, f_Md_isValue), (464, 0, 4, 1, f_Md_inserted), (467, 0, 1, 1, f_Md_done)], [], [], [(0, [0, 1, 2, 3])], [], 2)
def f_Md_insert : mm_F := fun args h => mm_ga [1, 1, 1, 1] args (mm_gd 12 args h (mm_run p_Md_insert (mm_fu + 1) 0 args [] h))
set_option maxRecDepth 100000 in
theorem e_Md_insert_0 (f : Nat) (t : Nat) (v1 : Int32) (v2 : Int32) (v3 : Int32) (h : mm_H) : mm_run p_Md_insert (f + 1) 0 [.ref t, .int v1, .int v2, .int v3] [] h =
  (mm_pf 12 0 (.int 0) h t).bind fun h1 =>
  mm_cv (f_Md_aside [.ref t] h1) fun h2 =>
  mm_ci (f_Md_isValue [.int v1] h2) fun x4 h3 =>
  if x4 = 0 then
    mm_ci (f_Md_done [.ref t, .int (-1)] h3) fun x6 h5 =>
    some (some (.int x6), h5)
  else
    mm_ci (f_Md_isValue [.int v2] h3) fun x8 h7 =>
    if x8 = 0 then
      mm_ci (f_Md_done [.ref t, .int (-1)] h7) fun x10 h9 =>
      some (some (.int x10), h9)
    else
      mm_ci (f_Md_isValue [.int v3] h7) fun x12 h11 =>
      if x12 = 0 then
        mm_ci (f_Md_done [.ref t, .int (-1)] h11) fun x14 h13 =>
        some (some (.int x14), h13)
      else
        mm_ci (f_Md_inserted [.ref t, .int 0, .int v1, .int v2, .int v3] h11) fun x16 h15 =>
        mm_ci (f_Md_done [.ref t, .int x16] h15) fun x18 h17 =>
        some (some (.int x18), h17) := rfl
theorem e_Md_insert (t : Nat) (v1 : Int32) (v2 : Int32) (v3 : Int32) (h : mm_H) {fs : List Value} (hb : h t = some (.inr (12, fs))) : f_Md_insert [.ref t, .int v1, .int v2, .int v3] h =
  (mm_pf 12 0 (.int 0) h t).bind fun h1 =>
  mm_cv (f_Md_aside [.ref t] h1) fun h2 =>
  mm_ci (f_Md_isValue [.int v1] h2) fun x4 h3 =>
  if x4 = 0 then
    mm_ci (f_Md_done [.ref t, .int (-1)] h3) fun x6 h5 =>
    some (some (.int x6), h5)
  else
    mm_ci (f_Md_isValue [.int v2] h3) fun x8 h7 =>
    if x8 = 0 then
      mm_ci (f_Md_done [.ref t, .int (-1)] h7) fun x10 h9 =>
      some (some (.int x10), h9)
    else
      mm_ci (f_Md_isValue [.int v3] h7) fun x12 h11 =>
      if x12 = 0 then
        mm_ci (f_Md_done [.ref t, .int (-1)] h11) fun x14 h13 =>
        some (some (.int x14), h13)
      else
        mm_ci (f_Md_inserted [.ref t, .int 0, .int v1, .int v2, .int v3] h11) fun x16 h15 =>
        mm_ci (f_Md_done [.ref t, .int x16] h15) fun x18 h17 =>
        some (some (.int x18), h17) := (mm_ga_is rfl).trans ((mm_gd_is hb).trans (e_Md_insert_0 mm_fu t v1 v2 v3 h))
set_option maxRecDepth 100000 in
theorem i_Md_insert (l : Launch) : mm_Imp l yX12_insert cX12_insert 5 (some .int) 8 f_Md_insert := mm_imp l (P := p_Md_insert) mm_cls_ok mm_sys_ok (by decide) (mm_Pok_of (List.forall_mem_cons.mpr ⟨k_X12_1, (fun _ h => absurd h List.not_mem_nil)⟩) (List.forall_mem_cons.mpr ⟨v_Md_aside l q_2055 (by decide), (List.forall_mem_cons.mpr ⟨v_Md_isValue l (Or.inl q_2063) (by decide), (List.forall_mem_cons.mpr ⟨v_Md_inserted l q_2066 (by decide), (List.forall_mem_cons.mpr ⟨v_Md_done l q_2090 (by decide), (fun _ h => absurd h List.not_mem_nil)⟩)⟩)⟩)⟩) (fun _ h => absurd h List.not_mem_nil) (fun _ h => absurd h List.not_mem_nil)) (by decide +kernel) rfl (cats := [1, 1, 1, 1]) (fun as h r e => ⟨(mm_ga_inv e).1, (mm_gd_inv (mm_ga_inv e).2).1⟩) rfl (by decide)
theorem v_Md_insert (l : Launch) {own : String} {i n0 : Nat} (hl : Cond.methodLink own i yX12_insert ∈ mm_tbl) (hn : 9 ≤ n0) : mm_cok l own n0 i (0, 3, 1, f_Md_insert) := Or.inr (Or.inr ⟨rfl, yX12_insert, cX12_insert, 5, (some .int), 8, 12, TX12, 27, i_Md_insert l, hn, by decide, by decide +kernel, rfl, fun _ _ _ e => (mm_gd_inv (mm_ga_inv e).2).2, hl, q_2052, q_2053, q_179, q_2054⟩)
