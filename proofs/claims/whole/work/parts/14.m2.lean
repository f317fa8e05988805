def p_Rd_workLine : mm_P := ([(0, .aload_n 0, 1, 0), (1, .getfield 35, 3, 0), (4, .bipush 9, 2, 9), (6, .bipush 17, 2, 17), (8, .invokevirtual 102, 3, 0), (11, .ifCond .ne 9, 3, 0), (14, .aload_n 0, 1, 0), (15, .iconst 1, 1, 1), (16, .invokevirtual 83, 3, 0), (19, .ireturn, 1, 0), (20, .aload_n 0, 1, 0), (21, .getfield 21, 3, 0), (24, .getfield 87, 3, 0), (27, .istore_n 1, 1, 0), (28, .iload_n 1, 1, 0), (29, .bipush 40, 2, 40), (31, .if_icmp .lt 9, 3, 0), (34, .aload_n 0, 1, 0), (35, .iconst 5, 1, 5), (36, .invokevirtual 83, 3, 0), (39, .ireturn, 1, 0), (40, .aload_n 0, 1, 0), (41, .getfield 21, 3, 0), (44, .getfield 204, 3, 0), (47, .iload_n 1, 1, 0), (48, .aload_n 0, 1, 0), (49, .getfield 35, 3, 0), (52, .getfield 50, 3, 0), (55, .iastore, 1, 0), (56, .aload_n 0, 1, 0), (57, .getfield 35, 3, 0), (60, .invokevirtual 99, 3, 0), (63, .aload_n 0, 1, 0), (64, .iload_n 1, 1, 0), (65, .invokevirtual 207, 3, 0), (68, .ifCond .ne 5, 3, 0), (71, .iconst 0, 1, 0), (72, .ireturn, 1, 0), (73, .aload_n 0, 1, 0), (74, .getfield 21, 3, 0), (77, .dup, 1, 0), (78, .getfield 87, 3, 0), (81, .iconst 1, 1, 1), (82, .iadd, 1, 0), (83, .putfield 87, 3, 0), (86, .aload_n 0, 1, 0), (87, .invokevirtual 112, 3, 0), (90, .ireturn, 1, 0)], [(21, 6, 2, 2), (35, 6, 0, 4), (50, 9, 7, 0), (87, 3, 2, 0), (204, 3, 0, 4)], [(83, 0, 1, 1, f_Rd_wrong), (99, 0, 0, 0, f_Tp_readOn), (102, 0, 2, 1, f_Tp_isBetween), (112, 0, 0, 1, f_Rd_takeMark), (207, 0, 1, 1, f_Rd_workNumbers)], [], [], [(0, [0])], [], 1)
def f_Rd_workLine : mm_F := fun args h => mm_ga [1] args (mm_gd 6 args h (mm_run p_Rd_workLine (mm_fu + 1) 0 args [] h))
set_option maxRecDepth 100000 in
theorem e_Rd_workLine_0 (f : Nat) (t : Nat) (h : mm_H) : mm_run p_Rd_workLine (f + 1) 0 [.ref t] [] h =
  (mm_gr 6 0 h t).bind fun r1 =>
  mm_ci (f_Tp_isBetween [.ref r1, .int 9, .int 17] h) fun x3 h2 =>
  if x3 = 0 then
    mm_ci (f_Rd_wrong [.ref t, .int 1] h2) fun x5 h4 =>
    if x5 = 0 ∨ x5 = 1 then some (some (.int x5), h4) else none
  else
    (mm_gr 6 2 h2 t).bind fun r6 =>
    (mm_gi 3 2 h2 r6).bind fun x7 =>
    if x7 < 40 then
      (mm_gr 6 2 h2 t).bind fun r8 =>
      (mm_gr 3 0 h2 r8).bind fun r9 =>
      (mm_gr 6 0 h2 t).bind fun r10 =>
      (mm_gi 9 7 h2 r10).bind fun x11 =>
      (mm_si h2 r9 x7 x11).bind fun h12 =>
      (mm_gr 6 0 h12 t).bind fun r13 =>
      mm_cv (f_Tp_readOn [.ref r13] h12) fun h14 =>
      mm_ci (f_Rd_workNumbers [.ref t, .int x7] h14) fun x16 h15 =>
      if x16 = 0 then
        some (some (.int 0), h15)
      else
        (mm_gr 6 2 h15 t).bind fun r17 =>
        (mm_gi 3 2 h15 r17).bind fun x18 =>
        (mm_pf 3 2 (.int (x18 + 1)) h15 r17).bind fun h19 =>
        mm_ci (f_Rd_takeMark [.ref t] h19) fun x21 h20 =>
        if x21 = 0 ∨ x21 = 1 then some (some (.int x21), h20) else none
    else
      mm_ci (f_Rd_wrong [.ref t, .int 5] h2) fun x23 h22 =>
      if x23 = 0 ∨ x23 = 1 then some (some (.int x23), h22) else none := rfl
theorem e_Rd_workLine (t : Nat) (h : mm_H) {fs : List Value} (hb : h t = some (.inr (6, fs))) : f_Rd_workLine [.ref t] h =
  (mm_gr 6 0 h t).bind fun r1 =>
  mm_ci (f_Tp_isBetween [.ref r1, .int 9, .int 17] h) fun x3 h2 =>
  if x3 = 0 then
    mm_ci (f_Rd_wrong [.ref t, .int 1] h2) fun x5 h4 =>
    if x5 = 0 ∨ x5 = 1 then some (some (.int x5), h4) else none
  else
    (mm_gr 6 2 h2 t).bind fun r6 =>
    (mm_gi 3 2 h2 r6).bind fun x7 =>
    if x7 < 40 then
      (mm_gr 6 2 h2 t).bind fun r8 =>
      (mm_gr 3 0 h2 r8).bind fun r9 =>
      (mm_gr 6 0 h2 t).bind fun r10 =>
      (mm_gi 9 7 h2 r10).bind fun x11 =>
      (mm_si h2 r9 x7 x11).bind fun h12 =>
      (mm_gr 6 0 h12 t).bind fun r13 =>
      mm_cv (f_Tp_readOn [.ref r13] h12) fun h14 =>
      mm_ci (f_Rd_workNumbers [.ref t, .int x7] h14) fun x16 h15 =>
      if x16 = 0 then
        some (some (.int 0), h15)
      else
        (mm_gr 6 2 h15 t).bind fun r17 =>
        (mm_gi 3 2 h15 r17).bind fun x18 =>
        (mm_pf 3 2 (.int (x18 + 1)) h15 r17).bind fun h19 =>
        mm_ci (f_Rd_takeMark [.ref t] h19) fun x21 h20 =>
        if x21 = 0 ∨ x21 = 1 then some (some (.int x21), h20) else none
    else
      mm_ci (f_Rd_wrong [.ref t, .int 5] h2) fun x23 h22 =>
      if x23 = 0 ∨ x23 = 1 then some (some (.int x23), h22) else none := (mm_ga_is rfl).trans ((mm_gd_is hb).trans (e_Rd_workLine_0 mm_fu t h))
set_option maxRecDepth 100000 in
theorem i_Rd_workLine (l : Launch) : mm_Imp l yX6_workLine cX6_workLine 2 (some .boolean) 5 f_Rd_workLine := mm_imp l (P := p_Rd_workLine) mm_cls_ok mm_sys_ok (by decide) (mm_Pok_of (List.forall_mem_cons.mpr ⟨k_X6_21, (List.forall_mem_cons.mpr ⟨k_X6_35, (List.forall_mem_cons.mpr ⟨k_X6_50, (List.forall_mem_cons.mpr ⟨k_X6_87, (List.forall_mem_cons.mpr ⟨k_X6_204, (fun _ h => absurd h List.not_mem_nil)⟩)⟩)⟩)⟩)⟩) (List.forall_mem_cons.mpr ⟨v_Rd_wrong l q_757 (by decide), (List.forall_mem_cons.mpr ⟨v_Tp_readOn l q_761 (by decide), (List.forall_mem_cons.mpr ⟨v_Tp_isBetween l q_790 (by decide), (List.forall_mem_cons.mpr ⟨v_Rd_takeMark l q_766 (by decide), (List.forall_mem_cons.mpr ⟨v_Rd_workNumbers l q_944 (by decide), (fun _ h => absurd h List.not_mem_nil)⟩)⟩)⟩)⟩)⟩) (fun _ h => absurd h List.not_mem_nil) (fun _ h => absurd h List.not_mem_nil)) (by decide +kernel) rfl (cats := [1]) (fun as h r e => ⟨(mm_ga_inv e).1, (mm_gd_inv (mm_ga_inv e).2).1⟩) rfl (by decide)
theorem v_Rd_workLine (l : Launch) {own : String} {i n0 : Nat} (hl : Cond.methodLink own i yX6_workLine ∈ mm_tbl) (hn : 6 ≤ n0) : mm_cok l own n0 i (0, 0, 1, f_Rd_workLine) := Or.inr (Or.inr ⟨rfl, yX6_workLine, cX6_workLine, 2, (some .boolean), 5, 6, TX6, 6, i_Rd_workLine l, hn, by decide, by decide +kernel, rfl, fun _ _ _ e => (mm_gd_inv (mm_ga_inv e).2).2, hl, q_942, q_24, q_169, q_943⟩)
def p_Rd_readLines : mm_P := ([(0, .aload_n 0, 1, 0), (1, .aload_n 1, 1, 0), (2, .putfield 12, 3, 0), (5, .aload_n 0, 1, 0), (6, .aload_n 2, 1, 0), (7, .putfield 21, 3, 0), (10, .aload_n 0, 1, 0), (11, .getfield 21, 3, 0), (14, .iconst 0, 1, 0), (15, .putfield 87, 3, 0), (18, .aload_n 0, 1, 0), (19, .iconst 0, 1, 0), (20, .putfield 25, 3, 0), (23, .aload_n 0, 1, 0), (24, .getfield 35, 3, 0), (27, .invokevirtual 42, 3, 0), (30, .iconst 0, 1, 0), (31, .istore_n 3, 1, 0), (32, .iload_n 3, 1, 0), (33, .sipush 1000, 3, 1000), (36, .if_icmp .ge 31, 3, 0), (39, .aload_n 0, 1, 0), (40, .getfield 35, 3, 0), (43, .getfield 47, 3, 0), (46, .ifCond .eq 21, 3, 0), (49, .aload_n 0, 1, 0), (50, .invokevirtual 90, 3, 0), (53, .ifCond .ne 8, 3, 0), (56, .aload_n 0, 1, 0), (57, .getfield 25, 3, 0), (60, .ireturn, 1, 0), (61, .iinc 3 1, 3, 1), (64, .goto (-32), 3, 0), (67, .iconst 0, 1, 0), (68, .ireturn, 1, 0)], [(12, 6, 1, 2), (21, 6, 2, 2), (25, 6, 3, 0), (35, 6, 0, 4), (47, 9, 6, 0), (87, 3, 2, 0)], [(42, 0, 0, 0, f_Tp_rewind), (90, 0, 0, 1, f_Rd_workLine)], [], [], [(0, [0, 1, 2]), (32, [0, 3])], [], 2)
def f_Rd_readLines : mm_F := fun args h => mm_ga [1, 1, 1] args (mm_gd 6 args h (mm_run p_Rd_readLines (mm_fu + 1) 0 args [] h))
set_option maxRecDepth 100000 in
theorem e_Rd_readLines_0 (f : Nat) (t : Nat) (v1 : Nat) (v2 : Nat) (h : mm_H) : mm_run p_Rd_readLines (f + 1) 0 [.ref t, .ref v1, .ref v2] [] h =
  (mm_pf 6 1 (.ref v1) h t).bind fun h1 =>
  (mm_pf 6 2 (.ref v2) h1 t).bind fun h2 =>
  (mm_gr 6 2 h2 t).bind fun r3 =>
  (mm_pf 3 2 (.int 0) h2 r3).bind fun h4 =>
  (mm_pf 6 3 (.int 0) h4 t).bind fun h5 =>
  (mm_gr 6 0 h5 t).bind fun r6 =>
  mm_cv (f_Tp_rewind [.ref r6] h5) fun h7 =>
  mm_run p_Rd_readLines f 32 [.ref t, .int 0] [] h7 := rfl
theorem e_Rd_readLines (t : Nat) (v1 : Nat) (v2 : Nat) (h : mm_H) {fs : List Value} (hb : h t = some (.inr (6, fs))) : f_Rd_readLines [.ref t, .ref v1, .ref v2] h =
  (mm_pf 6 1 (.ref v1) h t).bind fun h1 =>
  (mm_pf 6 2 (.ref v2) h1 t).bind fun h2 =>
  (mm_gr 6 2 h2 t).bind fun r3 =>
  (mm_pf 3 2 (.int 0) h2 r3).bind fun h4 =>
  (mm_pf 6 3 (.int 0) h4 t).bind fun h5 =>
  (mm_gr 6 0 h5 t).bind fun r6 =>
  mm_cv (f_Tp_rewind [.ref r6] h5) fun h7 =>
  mm_run p_Rd_readLines mm_fu 32 [.ref t, .int 0] [] h7 := (mm_ga_is rfl).trans ((mm_gd_is hb).trans (e_Rd_readLines_0 mm_fu t v1 v2 h))
set_option maxRecDepth 100000 in
theorem e_Rd_readLines_32 (f : Nat) (t : Nat) (v3 : Int32) (h : mm_H) : mm_run p_Rd_readLines (f + 1) 32 [.ref t, .int v3] [] h =
  if v3 < 1000 then
    (mm_gr 6 0 h t).bind fun r1 =>
    (mm_gi 9 6 h r1).bind fun x2 =>
    if x2 = 0 then
      some (some (.int 0), h)
    else
      mm_ci (f_Rd_workLine [.ref t] h) fun x4 h3 =>
      if x4 = 0 then
        (mm_gi 6 3 h3 t).bind fun x5 =>
        some (some (.int x5), h3)
      else
        mm_run p_Rd_readLines f 32 [.ref t, .int (v3 + 1)] [] h3
  else
    some (some (.int 0), h) := rfl
set_option maxRecDepth 100000 in
theorem i_Rd_readLines (l : Launch) : mm_Imp l yX6_readLines cX6_readLines 4 (some .int) 6 f_Rd_readLines := mm_imp l (P := p_Rd_readLines) mm_cls_ok mm_sys_ok (by decide) (mm_Pok_of (List.forall_mem_cons.mpr ⟨k_X6_12, (List.forall_mem_cons.mpr ⟨k_X6_21, (List.forall_mem_cons.mpr ⟨k_X6_25, (List.forall_mem_cons.mpr ⟨k_X6_35, (List.forall_mem_cons.mpr ⟨k_X6_47, (List.forall_mem_cons.mpr ⟨k_X6_87, (fun _ h => absurd h List.not_mem_nil)⟩)⟩)⟩)⟩)⟩)⟩) (List.forall_mem_cons.mpr ⟨v_Tp_rewind l q_737 (by decide), (List.forall_mem_cons.mpr ⟨v_Rd_workLine l q_940 (by decide), (fun _ h => absurd h List.not_mem_nil)⟩)⟩) (fun _ h => absurd h List.not_mem_nil) (fun _ h => absurd h List.not_mem_nil)) (by decide +kernel) rfl (cats := [1, 1, 1]) (fun as h r e => ⟨(mm_ga_inv e).1, (mm_gd_inv (mm_ga_inv e).2).1⟩) rfl (by decide)
theorem v_Rd_readLines (l : Launch) {own : String} {i n0 : Nat} (hl : Cond.methodLink own i yX6_readLines ∈ mm_tbl) (hn : 7 ≤ n0) : mm_cok l own n0 i (0, 2, 1, f_Rd_readLines) := Or.inr (Or.inr ⟨rfl, yX6_readLines, cX6_readLines, 4, (some .int), 6, 6, TX6, 6, i_Rd_readLines l, hn, by decide, by decide +kernel, rfl, fun _ _ _ e => (mm_gd_inv (mm_ga_inv e).2).2, hl, q_937, q_938, q_169, q_939⟩)
def p_Rw_clear : mm_P := ([(0, .aload_n 0, 1, 0), (1, .iconst 0, 1, 0), (2, .putfield 15, 3, 0), (5, .aload_n 0, 1, 0), (6, .iconst 0, 1, 0), (7, .putfield 19, 3, 0), (10, .aload_n 0, 1, 0), (11, .iconst 0, 1, 0), (12, .putfield 22, 3, 0), (15, .return_, 1, 0)], [(15, 7, 1, 0), (19, 7, 2, 0), (22, 7, 3, 0)], [], [], [], [(0, [0])], [], 0)
def f_Rw_clear : mm_F := fun args h => mm_ga [1] args (mm_gd 7 args h (mm_run p_Rw_clear (mm_fu + 1) 0 args [] h))
set_option maxRecDepth 100000 in
theorem e_Rw_clear_0 (f : Nat) (t : Nat) (h : mm_H) : mm_run p_Rw_clear (f + 1) 0 [.ref t] [] h =
  (mm_pf 7 1 (.int 0) h t).bind fun h1 =>
  (mm_pf 7 2 (.int 0) h1 t).bind fun h2 =>
  (mm_pf 7 3 (.int 0) h2 t).bind fun h3 =>
  some (none, h3) := rfl
theorem e_Rw_clear (t : Nat) (h : mm_H) {fs : List Value} (hb : h t = some (.inr (7, fs))) : f_Rw_clear [.ref t] h =
  (mm_pf 7 1 (.int 0) h t).bind fun h1 =>
  (mm_pf 7 2 (.int 0) h1 t).bind fun h2 =>
  (mm_pf 7 3 (.int 0) h2 t).bind fun h3 =>
  some (none, h3) := (mm_ga_is rfl).trans ((mm_gd_is hb).trans (e_Rw_clear_0 mm_fu t h))
set_option maxRecDepth 100000 in
theorem i_Rw_clear (l : Launch) : mm_Imp l yX7_clear cX7_clear 1 none 1 f_Rw_clear := mm_imp l (P := p_Rw_clear) mm_cls_ok mm_sys_ok (by decide) (mm_Pok_of (List.forall_mem_cons.mpr ⟨k_X7_15, (List.forall_mem_cons.mpr ⟨k_X7_19, (List.forall_mem_cons.mpr ⟨k_X7_22, (fun _ h => absurd h List.not_mem_nil)⟩)⟩)⟩) (fun _ h => absurd h List.not_mem_nil) (fun _ h => absurd h List.not_mem_nil) (fun _ h => absurd h List.not_mem_nil)) (by decide +kernel) rfl (cats := [1]) (fun as h r e => ⟨(mm_ga_inv e).1, (mm_gd_inv (mm_ga_inv e).2).1⟩) rfl (by decide)
theorem v_Rw_clear (l : Launch) {own : String} {i n0 : Nat} (hl : Cond.methodLink own i yX7_clear ∈ mm_tbl) (hn : 2 ≤ n0) : mm_cok l own n0 i (0, 0, 0, f_Rw_clear) := Or.inr (Or.inr ⟨rfl, yX7_clear, cX7_clear, 1, none, 1, 7, TX7, 4, i_Rw_clear l, hn, by decide, by decide +kernel, rfl, fun _ _ _ e => (mm_gd_inv (mm_ga_inv e).2).2, hl, q_852, q_853, q_175, q_854⟩)
def p_Rw_become : mm_P := ([(0, .aload_n 1, 1, 0), (1, .getfield 9, 3, 0), (4, .iconst 0, 1, 0), (5, .aload_n 0, 1, 0), (6, .getfield 9, 3, 0), (9, .iconst 0, 1, 0), (10, .bipush 90, 2, 90), (12, .invokestatic 25, 3, 0), (15, .aload_n 0, 1, 0), (16, .aload_n 1, 1, 0), (17, .getfield 15, 3, 0), (20, .putfield 15, 3, 0), (23, .aload_n 0, 1, 0), (24, .aload_n 1, 1, 0), (25, .getfield 19, 3, 0), (28, .putfield 19, 3, 0), (31, .aload_n 0, 1, 0), (32, .aload_n 1, 1, 0), (33, .getfield 22, 3, 0), (36, .putfield 22, 3, 0), (39, .return_, 1, 0)], [(9, 7, 0, 4), (15, 7, 1, 0), (19, 7, 2, 0), (22, 7, 3, 0)], [(25, 2, 5, 0, fun _ _ => none)], [], [], [(0, [0, 1])], [], 0)
def f_Rw_become : mm_F := fun args h => mm_ga [1, 1] args (mm_gd 7 args h (mm_run p_Rw_become (mm_fu + 1) 0 args [] h))
set_option maxRecDepth 100000 in
theorem e_Rw_become_0 (f : Nat) (t : Nat) (v1 : Nat) (h : mm_H) : mm_run p_Rw_become (f + 1) 0 [.ref t, .ref v1] [] h =
  (mm_gr 7 0 h v1).bind fun r1 =>
  (mm_gr 7 0 h t).bind fun r2 =>
  (mm_cp h r1 0 r2 0 90).bind fun h3 =>
  (mm_gi 7 1 h3 v1).bind fun x4 =>
  (mm_pf 7 1 (.int x4) h3 t).bind fun h5 =>
  (mm_gi 7 2 h5 v1).bind fun x6 =>
  (mm_pf 7 2 (.int x6) h5 t).bind fun h7 =>
  (mm_gi 7 3 h7 v1).bind fun x8 =>
  (mm_pf 7 3 (.int x8) h7 t).bind fun h9 =>
  some (none, h9) := rfl
theorem e_Rw_become (t : Nat) (v1 : Nat) (h : mm_H) {fs : List Value} (hb : h t = some (.inr (7, fs))) : f_Rw_become [.ref t, .ref v1] h =
  (mm_gr 7 0 h v1).bind fun r1 =>
  (mm_gr 7 0 h t).bind fun r2 =>
  (mm_cp h r1 0 r2 0 90).bind fun h3 =>
  (mm_gi 7 1 h3 v1).bind fun x4 =>
  (mm_pf 7 1 (.int x4) h3 t).bind fun h5 =>
  (mm_gi 7 2 h5 v1).bind fun x6 =>
  (mm_pf 7 2 (.int x6) h5 t).bind fun h7 =>
  (mm_gi 7 3 h7 v1).bind fun x8 =>
  (mm_pf 7 3 (.int x8) h7 t).bind fun h9 =>
  some (none, h9) := (mm_ga_is rfl).trans ((mm_gd_is hb).trans (e_Rw_become_0 mm_fu t v1 h))
set_option maxRecDepth 100000 in
theorem i_Rw_become (l : Launch) : mm_Imp l yX7_become cX7_become 2 none 1 f_Rw_become := mm_imp l (P := p_Rw_become) mm_cls_ok mm_sys_ok (by decide) (mm_Pok_of (List.forall_mem_cons.mpr ⟨k_X7_9, (List.forall_mem_cons.mpr ⟨k_X7_15, (List.forall_mem_cons.mpr ⟨k_X7_19, (List.forall_mem_cons.mpr ⟨k_X7_22, (fun _ h => absurd h List.not_mem_nil)⟩)⟩)⟩)⟩) (List.forall_mem_cons.mpr ⟨Or.inl ⟨by decide, Or.inl ⟨rfl, q_1017⟩⟩, (fun _ h => absurd h List.not_mem_nil)⟩) (fun _ h => absurd h List.not_mem_nil) (fun _ h => absurd h List.not_mem_nil)) (by decide +kernel) rfl (cats := [1, 1]) (fun as h r e => ⟨(mm_ga_inv e).1, (mm_gd_inv (mm_ga_inv e).2).1⟩) rfl (by decide)
theorem v_Rw_become (l : Launch) {own : String} {i n0 : Nat} (hl : Cond.methodLink own i yX7_become ∈ mm_tbl) (hn : 2 ≤ n0) : mm_cok l own n0 i (0, 1, 0, f_Rw_become) := Or.inr (Or.inr ⟨rfl, yX7_become, cX7_become, 2, none, 1, 7, TX7, 4, i_Rw_become l, hn, by decide, by decide +kernel, rfl, fun _ _ _ e => (mm_gd_inv (mm_ga_inv e).2).2, hl, q_1014, q_1015, q_175, q_1016⟩)
def p_St_become : mm_P := ([(0, .aload_n 0, 1, 0), (1, .getfield 12, 3, 0), (4, .aload_n 1, 1, 0), (5, .getfield 12, 3, 0), (8, .invokevirtual 60, 3, 0), (11, .aload_n 0, 1, 0), (12, .getfield 21, 3, 0), (15, .aload_n 1, 1, 0), (16, .getfield 21, 3, 0), (19, .invokevirtual 64, 3, 0), (22, .iconst 0, 1, 0), (23, .istore_n 2, 1, 0), (24, .iload_n 2, 1, 0), (25, .iconst 4, 1, 4), (26, .if_icmp .ge 24, 3, 0), (29, .aload_n 0, 1, 0), (30, .getfield 27, 3, 0), (33, .iload_n 2, 1, 0), (34, .aaload, 1, 0), (35, .aload_n 1, 1, 0), (36, .getfield 27, 3, 0), (39, .iload_n 2, 1, 0), (40, .aaload, 1, 0), (41, .invokevirtual 67, 3, 0), (44, .iinc 2 1, 3, 1), (47, .goto (-23), 3, 0), (50, .aload_n 0, 1, 0), (51, .getfield 34, 3, 0), (54, .aload_n 1, 1, 0), (55, .getfield 34, 3, 0), (58, .invokevirtual 70, 3, 0), (61, .aload_n 0, 1, 0), (62, .aload_n 1, 1, 0), (63, .getfield 49, 3, 0), (66, .putfield 49, 3, 0), (69, .aload_n 0, 1, 0), (70, .aload_n 1, 1, 0), (71, .getfield 58, 3, 0), (74, .putfield 58, 3, 0), (77, .aload_n 0, 1, 0), (78, .aload_n 1, 1, 0), (79, .getfield 45, 3, 0), (82, .putfield 45, 3, 0), (85, .return_, 1, 0)], [(12, 8, 0, 4), (21, 8, 1, 4), (27, 8, 2, 4), (34, 8, 3, 4), (45, 8, 8, 0), (49, 8, 6, 2), (58, 8, 7, 0)], [(60, 0, 1, 0, f_Rw_become), (64, 0, 1, 0, f_Pt_become), (67, 0, 1, 0, f_Lv_become), (70, 0, 1, 0, f_Jb_become)], [], [], [(0, [0, 1]), (24, [0, 1, 2])], [], 0)
def f_St_become : mm_F := fun args h => mm_ga [1, 1] args (mm_gd 8 args h (mm_run p_St_become (mm_fu + 1) 0 args [] h))
set_option maxRecDepth 100000 in
theorem e_St_become_0 (f : Nat) (t : Nat) (v1 : Nat) (h : mm_H) : mm_run p_St_become (f + 1) 0 [.ref t, .ref v1] [] h =
  (mm_gr 8 0 h t).bind fun r1 =>
  (mm_gr 8 0 h v1).bind fun r2 =>
  mm_cv (f_Rw_become [.ref r1, .ref r2] h) fun h3 =>
  (mm_gr 8 1 h3 t).bind fun r4 =>
  (mm_gr 8 1 h3 v1).bind fun r5 =>
  mm_cv (f_Pt_become [.ref r4, .ref r5] h3) fun h6 =>
  mm_run p_St_become f 24 [.ref t, .ref v1, .int 0] [] h6 := rfl
theorem e_St_become (t : Nat) (v1 : Nat) (h : mm_H) {fs : List Value} (hb : h t = some (.inr (8, fs))) : f_St_become [.ref t, .ref v1] h =
  (mm_gr 8 0 h t).bind fun r1 =>
  (mm_gr 8 0 h v1).bind fun r2 =>
  mm_cv (f_Rw_become [.ref r1, .ref r2] h) fun h3 =>
  (mm_gr 8 1 h3 t).bind fun r4 =>
  (mm_gr 8 1 h3 v1).bind fun r5 =>
  mm_cv (f_Pt_become [.ref r4, .ref r5] h3) fun h6 =>
  mm_run p_St_become mm_fu 24 [.ref t, .ref v1, .int 0] [] h6 := (mm_ga_is rfl).trans ((mm_gd_is hb).trans (e_St_become_0 mm_fu t v1 h))
set_option maxRecDepth 100000 in
theorem e_St_become_24 (f : Nat) (t : Nat) (v1 : Nat) (v2 : Int32) (h : mm_H) : mm_run p_St_become (f + 1) 24 [.ref t, .ref v1, .int v2] [] h =
  if v2 < 4 then
    (mm_gr 8 2 h t).bind fun r1 =>
    (mm_lr h r1 v2).bind fun r2 =>
    (mm_gr 8 2 h v1).bind fun r3 =>
    (mm_lr h r3 v2).bind fun r4 =>
    mm_cv (f_Lv_become [.ref r2, .ref r4] h) fun h5 =>
    mm_run p_St_become f 24 [.ref t, .ref v1, .int (v2 + 1)] [] h5
  else
    (mm_gr 8 3 h t).bind fun r6 =>
    (mm_gr 8 3 h v1).bind fun r7 =>
    mm_cv (f_Jb_become [.ref r6, .ref r7] h) fun h8 =>
    (mm_gr 8 6 h8 v1).bind fun r9 =>
    (mm_pf 8 6 (.ref r9) h8 t).bind fun h10 =>
    (mm_gi 8 7 h10 v1).bind fun x11 =>
    (mm_pf 8 7 (.int x11) h10 t).bind fun h12 =>
    (mm_gi 8 8 h12 v1).bind fun x13 =>
    (mm_pf 8 8 (.int x13) h12 t).bind fun h14 =>
    some (none, h14) := rfl
set_option maxRecDepth 100000 in
theorem i_St_become (l : Launch) : mm_Imp l yX8_become cX8_become 3 none 3 f_St_become := mm_imp l (P := p_St_become) mm_cls_ok mm_sys_ok (by decide) (mm_Pok_of (List.forall_mem_cons.mpr ⟨k_X8_12, (List.forall_mem_cons.mpr ⟨k_X8_21, (List.forall_mem_cons.mpr ⟨k_X8_27, (List.forall_mem_cons.mpr ⟨k_X8_34, (List.forall_mem_cons.mpr ⟨k_X8_45, (List.forall_mem_cons.mpr ⟨k_X8_49, (List.forall_mem_cons.mpr ⟨k_X8_58, (fun _ h => absurd h List.not_mem_nil)⟩)⟩)⟩)⟩)⟩)⟩)⟩) (List.forall_mem_cons.mpr ⟨v_Rw_become l q_1013 (by decide), (List.forall_mem_cons.mpr ⟨v_Pt_become l q_1020 (by decide), (List.forall_mem_cons.mpr ⟨v_Lv_become l q_1025 (by decide), (List.forall_mem_cons.mpr ⟨v_Jb_become l q_1030 (by decide), (fun _ h => absurd h List.not_mem_nil)⟩)⟩)⟩)⟩) (fun _ h => absurd h List.not_mem_nil) (fun _ h => absurd h List.not_mem_nil)) (by decide +kernel) rfl (cats := [1, 1]) (fun as h r e => ⟨(mm_ga_inv e).1, (mm_gd_inv (mm_ga_inv e).2).1⟩) rfl (by decide)
theorem v_St_become (l : Launch) {own : String} {i n0 : Nat} (hl : Cond.methodLink own i yX8_become ∈ mm_tbl) (hn : 4 ≤ n0) : mm_cok l own n0 i (0, 1, 0, f_St_become) := Or.inr (Or.inr ⟨rfl, yX8_become, cX8_become, 3, none, 3, 8, TX8, 9, i_St_become l, hn, by decide, by decide +kernel, rfl, fun _ _ _ e => (mm_gd_inv (mm_ga_inv e).2).2, hl, q_1010, q_1011, q_174, q_1012⟩)
def p_St_becomeRisen : mm_P := ([(0, .aload_n 0, 1, 0), (1, .aload_n 1, 1, 0), (2, .invokevirtual 73, 3, 0), (5, .aload_n 0, 1, 0), (6, .invokevirtual 76, 3, 0), (9, .pop, 1, 0), (10, .return_, 1, 0)], [], [(73, 0, 1, 0, f_St_become), (76, 0, 0, 1, f_St_rise)], [], [], [(0, [0, 1])], [], 0)
def f_St_becomeRisen : mm_F := fun args h => mm_ga [1, 1] args (mm_gd 8 args h (mm_run p_St_becomeRisen (mm_fu + 1) 0 args [] h))
set_option maxRecDepth 100000 in
theorem e_St_becomeRisen_0 (f : Nat) (t : Nat) (v1 : Nat) (h : mm_H) : mm_run p_St_becomeRisen (f + 1) 0 [.ref t, .ref v1] [] h =
  mm_cv (f_St_become [.ref t, .ref v1] h) fun h1 =>
  mm_ci (f_St_rise [.ref t] h1) fun x3 h2 =>
  some (none, h2) := rfl
theorem e_St_becomeRisen (t : Nat) (v1 : Nat) (h : mm_H) {fs : List Value} (hb : h t = some (.inr (8, fs))) : f_St_becomeRisen [.ref t, .ref v1] h =
  mm_cv (f_St_become [.ref t, .ref v1] h) fun h1 =>
  mm_ci (f_St_rise [.ref t] h1) fun x3 h2 =>
  some (none, h2) := (mm_ga_is rfl).trans ((mm_gd_is hb).trans (e_St_becomeRisen_0 mm_fu t v1 h))
set_option maxRecDepth 100000 in
theorem i_St_becomeRisen (l : Launch) : mm_Imp l yX8_becomeRisen cX8_becomeRisen 2 none 5 f_St_becomeRisen := mm_imp l (P := p_St_becomeRisen) mm_cls_ok mm_sys_ok (by decide) (mm_Pok_of (fun _ h => absurd h List.not_mem_nil) (List.forall_mem_cons.mpr ⟨v_St_become l q_1473 (by decide), (List.forall_mem_cons.mpr ⟨v_St_rise l q_1474 (by decide), (fun _ h => absurd h List.not_mem_nil)⟩)⟩) (fun _ h => absurd h List.not_mem_nil) (fun _ h => absurd h List.not_mem_nil)) (by decide +kernel) rfl (cats := [1, 1]) (fun as h r e => ⟨(mm_ga_inv e).1, (mm_gd_inv (mm_ga_inv e).2).1⟩) rfl (by decide)
theorem v_St_becomeRisen (l : Launch) {own : String} {i n0 : Nat} (hl : Cond.methodLink own i yX8_becomeRisen ∈ mm_tbl) (hn : 6 ≤ n0) : mm_cok l own n0 i (0, 1, 0, f_St_becomeRisen) := Or.inr (Or.inr ⟨rfl, yX8_becomeRisen, cX8_becomeRisen, 2, none, 5, 8, TX8, 9, i_St_becomeRisen l, hn, by decide, by decide +kernel, rfl, fun _ _ _ e => (mm_gd_inv (mm_ga_inv e).2).2, hl, q_1470, q_1471, q_174, q_1472⟩)
def p_St_seat : mm_P := ([(0, .aload_n 0, 1, 0), (1, .getfield 12, 3, 0), (4, .iload_n 1, 1, 0), (5, .iload_n 2, 1, 0), (6, .iload_n 3, 1, 0), (7, .invokevirtual 117, 3, 0), (10, .istore 4, 2, 0), (12, .aload_n 0, 1, 0), (13, .iload 4, 2, 0), (15, .aload_n 0, 1, 0), (16, .getfield 49, 3, 0), (19, .getfield 120, 3, 0), (22, .aload_n 0, 1, 0), (23, .iload 4, 2, 0), (25, .invokevirtual 124, 3, 0), (28, .aload_n 0, 1, 0), (29, .getfield 42, 3, 0), (32, .invokevirtual 130, 3, 0), (35, .iconst 0, 1, 0), (36, .istore 5, 2, 0), (38, .iload 5, 2, 0), (40, .aload_n 0, 1, 0), (41, .getfield 49, 3, 0), (44, .getfield 134, 3, 0), (47, .if_icmp .ge 55, 3, 0), (50, .iload 4, 2, 0), (52, .iconst (-1), 1, (-1)), (53, .if_icmp .eq 43, 3, 0), (56, .aload_n 0, 1, 0), (57, .getfield 42, 3, 0), (60, .iload 5, 2, 0), (62, .iaload, 1, 0), (63, .iconst (-1), 1, (-1)), (64, .if_icmp .eq 32, 3, 0), (67, .aload_n 0, 1, 0), (68, .getfield 27, 3, 0), (71, .iload 5, 2, 0), (73, .aaload, 1, 0), (74, .aload_n 0, 1, 0), (75, .getfield 27, 3, 0), (78, .iload 5, 2, 0), (80, .aaload, 1, 0), (81, .aload_n 0, 1, 0), (82, .getfield 42, 3, 0), (85, .iload 5, 2, 0), (87, .iaload, 1, 0), (88, .iload 4, 2, 0), (90, .invokevirtual 137, 3, 0), (93, .invokevirtual 140, 3, 0), (96, .iinc 5 1, 3, 1), (99, .goto (-61), 3, 0), (102, .return_, 1, 0)], [(12, 8, 0, 4), (27, 8, 2, 4), (42, 8, 5, 4), (49, 8, 6, 2), (120, 4, 7, 4), (134, 4, 10, 0)], [(117, 0, 3, 1, f_Rw_add), (124, 0, 2, 1, f_Wh_holds), (130, 0, 3, 0, f_St_entriesOf), (137, 0, 2, 1, f_Lv_code), (140, 0, 1, 0, f_Lv_put)], [], [], [(0, [0, 1, 2, 3]), (38, [0, 4, 5])], [], 0)
def f_St_seat : mm_F := fun args h => mm_ga [1, 1, 1, 1] args (mm_gd 8 args h (mm_run p_St_seat (mm_fu + 1) 0 args [] h))
set_option maxRecDepth 100000 in
theorem e_St_seat_0 (f : Nat) (t : Nat) (v1 : Int32) (v2 : Int32) (v3 : Int32) (h : mm_H) : mm_run p_St_seat (f + 1) 0 [.ref t, .int v1, .int v2, .int v3] [] h =
  (mm_gr 8 0 h t).bind fun r1 =>
  mm_ci (f_Rw_add [.ref r1, .int v1, .int v2, .int v3] h) fun x3 h2 =>
  (mm_gr 8 6 h2 t).bind fun r4 =>
  (mm_gr 4 7 h2 r4).bind fun r5 =>
  mm_ci (f_Wh_holds [.ref r5, .ref t, .int x3] h2) fun x7 h6 =>
  (mm_gr 8 5 h6 t).bind fun r8 =>
  mm_cv (f_St_entriesOf [.ref t, .int x3, .int x7, .ref r8] h6) fun h9 =>
  mm_run p_St_seat f 38 [.ref t, .int x3, .int 0] [] h9 := rfl
theorem e_St_seat (t : Nat) (v1 : Int32) (v2 : Int32) (v3 : Int32) (h : mm_H) {fs : List Value} (hb : h t = some (.inr (8, fs))) : f_St_seat [.ref t, .int v1, .int v2, .int v3] h =
  (mm_gr 8 0 h t).bind fun r1 =>
  mm_ci (f_Rw_add [.ref r1, .int v1, .int v2, .int v3] h) fun x3 h2 =>
  (mm_gr 8 6 h2 t).bind fun r4 =>
  (mm_gr 4 7 h2 r4).bind fun r5 =>
  mm_ci (f_Wh_holds [.ref r5, .ref t, .int x3] h2) fun x7 h6 =>
  (mm_gr 8 5 h6 t).bind fun r8 =>
  mm_cv (f_St_entriesOf [.ref t, .int x3, .int x7, .ref r8] h6) fun h9 =>
  mm_run p_St_seat mm_fu 38 [.ref t, .int x3, .int 0] [] h9 := (mm_ga_is rfl).trans ((mm_gd_is hb).trans (e_St_seat_0 mm_fu t v1 v2 v3 h))
set_option maxRecDepth 100000 in
theorem e_St_seat_38 (f : Nat) (t : Nat) (v4 : Int32) (v5 : Int32) (h : mm_H) : mm_run p_St_seat (f + 1) 38 [.ref t, .int v4, .int v5] [] h =
  (mm_gr 8 6 h t).bind fun r1 =>
  (mm_gi 4 10 h r1).bind fun x2 =>
  if v5 < x2 then
    if v4 = (-1) then
      mm_run p_St_seat f 38 [.ref t, .int v4, .int (v5 + 1)] [] h
    else
      (mm_gr 8 5 h t).bind fun r3 =>
      (mm_li h r3 v5).bind fun x4 =>
      if x4 = (-1) then
        mm_run p_St_seat f 38 [.ref t, .int v4, .int (v5 + 1)] [] h
      else
        (mm_gr 8 2 h t).bind fun r5 =>
        (mm_lr h r5 v5).bind fun r6 =>
        (mm_gr 8 2 h t).bind fun r7 =>
        (mm_lr h r7 v5).bind fun r8 =>
        (mm_gr 8 5 h t).bind fun r9 =>
        (mm_li h r9 v5).bind fun x10 =>
        mm_ci (f_Lv_code [.ref r8, .int x10, .int v4] h) fun x12 h11 =>
        mm_cv (f_Lv_put [.ref r6, .int x12] h11) fun h13 =>
        mm_run p_St_seat f 38 [.ref t, .int v4, .int (v5 + 1)] [] h13
  else
    some (none, h) := rfl
set_option maxRecDepth 100000 in
theorem i_St_seat (l : Launch) : mm_Imp l yX8_seat cX8_seat 6 none 4 f_St_seat := mm_imp l (P := p_St_seat) mm_cls_ok mm_sys_ok (by decide) (mm_Pok_of (List.forall_mem_cons.mpr ⟨k_X8_12, (List.forall_mem_cons.mpr ⟨k_X8_27, (List.forall_mem_cons.mpr ⟨k_X8_42, (List.forall_mem_cons.mpr ⟨k_X8_49, (List.forall_mem_cons.mpr ⟨k_X8_120, (List.forall_mem_cons.mpr ⟨k_X8_134, (fun _ h => absurd h List.not_mem_nil)⟩)⟩)⟩)⟩)⟩)⟩) (List.forall_mem_cons.mpr ⟨v_Rw_add l q_867 (by decide), (List.forall_mem_cons.mpr ⟨v_Wh_holds l q_879 (by decide), (List.forall_mem_cons.mpr ⟨v_St_entriesOf l q_899 (by decide), (List.forall_mem_cons.mpr ⟨v_Lv_code l q_908 (by decide), (List.forall_mem_cons.mpr ⟨v_Lv_put l q_912 (by decide), (fun _ h => absurd h List.not_mem_nil)⟩)⟩)⟩)⟩)⟩) (fun _ h => absurd h List.not_mem_nil) (fun _ h => absurd h List.not_mem_nil)) (by decide +kernel) rfl (cats := [1, 1, 1, 1]) (fun as h r e => ⟨(mm_ga_inv e).1, (mm_gd_inv (mm_ga_inv e).2).1⟩) rfl (by decide)
theorem v_St_seat (l : Launch) {own : String} {i n0 : Nat} (hl : Cond.methodLink own i yX8_seat ∈ mm_tbl) (hn : 5 ≤ n0) : mm_cok l own n0 i (0, 3, 0, f_St_seat) := Or.inr (Or.inr ⟨rfl, yX8_seat, cX8_seat, 6, none, 4, 8, TX8, 9, i_St_seat l, hn, by decide, by decide +kernel, rfl, fun _ _ _ e => (mm_gd_inv (mm_ga_inv e).2).2, hl, q_865, q_17, q_174, q_866⟩)
def p_St_startFrom : mm_P := ([(0, .aload_n 0, 1, 0), (1, .aload_n 1, 1, 0), (2, .putfield 49, 3, 0), (5, .aload_n 0, 1, 0), (6, .aload_n 1, 1, 0), (7, .getfield 53, 3, 0), (10, .putfield 58, 3, 0), (13, .aload_n 0, 1, 0), (14, .getfield 12, 3, 0), (17, .invokevirtual 80, 3, 0), (20, .aload_n 0, 1, 0), (21, .getfield 21, 3, 0), (24, .iconst 0, 1, 0), (25, .putfield 83, 3, 0), (28, .aload_n 0, 1, 0), (29, .getfield 34, 3, 0), (32, .invokevirtual 86, 3, 0), (35, .iconst 0, 1, 0), (36, .istore_n 2, 1, 0), (37, .iload_n 2, 1, 0), (38, .iconst 4, 1, 4), (39, .if_icmp .ge 37, 3, 0), (42, .aload_n 0, 1, 0), (43, .getfield 27, 3, 0), (46, .iload_n 2, 1, 0), (47, .aaload, 1, 0), (48, .aload_n 1, 1, 0), (49, .getfield 87, 3, 0), (52, .aload_n 1, 1, 0), (53, .getfield 90, 3, 0), (56, .iload_n 2, 1, 0), (57, .iaload, 1, 0), (58, .iconst 1, 1, 1), (59, .if_icmp .ne 7, 3, 0), (62, .iconst 1, 1, 1), (63, .goto 4, 3, 0), (66, .iconst 0, 1, 0), (67, .invokevirtual 93, 3, 0), (70, .iinc 2 1, 3, 1), (73, .goto (-36), 3, 0), (76, .iconst 0, 1, 0), (77, .istore_n 2, 1, 0), (78, .iload_n 2, 1, 0), (79, .aload_n 1, 1, 0), (80, .getfield 96, 3, 0), (83, .if_icmp .ge 41, 3, 0), (86, .aload_n 0, 1, 0), (87, .aload_n 1, 1, 0), (88, .getfield 98, 3, 0), (91, .iload_n 2, 1, 0), (92, .iconst 3, 1, 3), (93, .imul, 1, 0), (94, .iaload, 1, 0), (95, .aload_n 1, 1, 0), (96, .getfield 98, 3, 0), (99, .iload_n 2, 1, 0), (100, .iconst 3, 1, 3), (101, .imul, 1, 0), (102, .iconst 1, 1, 1), (103, .iadd, 1, 0), (104, .iaload, 1, 0), (105, .aload_n 1, 1, 0), (106, .getfield 98, 3, 0), (109, .iload_n 2, 1, 0), (110, .iconst 3, 1, 3), (111, .imul, 1, 0), (112, .iconst 2, 1, 2), (113, .iadd, 1, 0), (114, .iaload, 1, 0), (115, .invokevirtual 101, 3, 0), (118, .iinc 2 1, 3, 1), (121, .goto (-43), 3, 0), (124, .iconst 0, 1, 0), (125, .istore_n 2, 1, 0), (126, .iload_n 2, 1, 0), (127, .aload_n 1, 1, 0), (128, .getfield 105, 3, 0), (131, .if_icmp .ge 29, 3, 0), (134, .aload_n 0, 1, 0), (135, .getfield 21, 3, 0), (138, .aload_n 1, 1, 0), (139, .getfield 107, 3, 0), (142, .iload_n 2, 1, 0), (143, .iaload, 1, 0), (144, .aload_n 1, 1, 0), (145, .getfield 110, 3, 0), (148, .iload_n 2, 1, 0), (149, .iaload, 1, 0), (150, .invokevirtual 113, 3, 0), (153, .pop, 1, 0), (154, .iinc 2 1, 3, 1), (157, .goto (-31), 3, 0), (160, .aload_n 0, 1, 0), (161, .iconst 0, 1, 0), (162, .putfield 45, 3, 0), (165, .return_, 1, 0)], [(12, 8, 0, 4), (21, 8, 1, 4), (27, 8, 2, 4), (34, 8, 3, 4), (45, 8, 8, 0), (49, 8, 6, 2), (53, 4, 9, 0), (58, 8, 7, 0), (83, 5, 3, 0), (87, 4, 8, 0), (90, 4, 0, 4), (96, 4, 11, 0), (98, 4, 3, 4), (105, 4, 12, 0), (107, 4, 4, 4), (110, 4, 5, 4)], [(80, 0, 0, 0, f_Rw_clear), (86, 0, 0, 0, f_Jb_clear), (93, 0, 2, 0, f_Lv_clear), (101, 0, 3, 0, f_St_seat), (113, 0, 2, 1, f_Pt_add)], [], [], [(0, [0, 1]), (37, [0, 1, 2]), (78, [0, 1, 2]), (126, [0, 1, 2])], [], 0)
def f_St_startFrom : mm_F := fun args h => mm_ga [1, 1] args (mm_gd 8 args h (mm_run p_St_startFrom (mm_fu + 1) 0 args [] h))
set_option maxRecDepth 100000 in
theorem e_St_startFrom_0 (f : Nat) (t : Nat) (v1 : Nat) (h : mm_H) : mm_run p_St_startFrom (f + 1) 0 [.ref t, .ref v1] [] h =
  (mm_pf 8 6 (.ref v1) h t).bind fun h1 =>
  (mm_gi 4 9 h1 v1).bind fun x2 =>
  (mm_pf 8 7 (.int x2) h1 t).bind fun h3 =>
  (mm_gr 8 0 h3 t).bind fun r4 =>
  mm_cv (f_Rw_clear [.ref r4] h3) fun h5 =>
  (mm_gr 8 1 h5 t).bind fun r6 =>
  (mm_pf 5 3 (.int 0) h5 r6).bind fun h7 =>
  (mm_gr 8 3 h7 t).bind fun r8 =>
  mm_cv (f_Jb_clear [.ref r8] h7) fun h9 =>
  mm_run p_St_startFrom f 37 [.ref t, .ref v1, .int 0] [] h9 := rfl
theorem e_St_startFrom (t : Nat) (v1 : Nat) (h : mm_H) {fs : List Value} (hb : h t = some (.inr (8, fs))) : f_St_startFrom [.ref t, .ref v1] h =
  (mm_pf 8 6 (.ref v1) h t).bind fun h1 =>
  (mm_gi 4 9 h1 v1).bind fun x2 =>
  (mm_pf 8 7 (.int x2) h1 t).bind fun h3 =>
  (mm_gr 8 0 h3 t).bind fun r4 =>
  mm_cv (f_Rw_clear [.ref r4] h3) fun h5 =>
  (mm_gr 8 1 h5 t).bind fun r6 =>
  (mm_pf 5 3 (.int 0) h5 r6).bind fun h7 =>
  (mm_gr 8 3 h7 t).bind fun r8 =>
  mm_cv (f_Jb_clear [.ref r8] h7) fun h9 =>
  mm_run p_St_startFrom mm_fu 37 [.ref t, .ref v1, .int 0] [] h9 := (mm_ga_is rfl).trans ((mm_gd_is hb).trans (e_St_startFrom_0 mm_fu t v1 h))
set_option maxRecDepth 100000 in
theorem e_St_startFrom_37 (f : Nat) (t : Nat) (v1 : Nat) (v2 : Int32) (h : mm_H) : mm_run p_St_startFrom (f + 1) 37 [.ref t, .ref v1, .int v2] [] h =
  if v2 < 4 then
    (mm_gr 8 2 h t).bind fun r1 =>
    (mm_lr h r1 v2).bind fun r2 =>
    (mm_gi 4 8 h v1).bind fun x3 =>
    (mm_gr 4 0 h v1).bind fun r4 =>
    (mm_li h r4 v2).bind fun x5 =>
    if x5 = 1 then
      mm_cv (f_Lv_clear [.ref r2, .int x3, .int 1] h) fun h6 =>
      mm_run p_St_startFrom f 37 [.ref t, .ref v1, .int (v2 + 1)] [] h6
    else
      mm_cv (f_Lv_clear [.ref r2, .int x3, .int 0] h) fun h7 =>
      mm_run p_St_startFrom f 37 [.ref t, .ref v1, .int (v2 + 1)] [] h7
  else
    mm_run p_St_startFrom f 78 [.ref t, .ref v1, .int 0] [] h := rfl
set_option maxRecDepth 100000 in
theorem e_St_startFrom_78 (f : Nat) (t : Nat) (v1 : Nat) (v2 : Int32) (h : mm_H) : mm_run p_St_startFrom (f + 1) 78 [.ref t, .ref v1, .int v2] [] h =
  (mm_gi 4 11 h v1).bind fun x1 =>
  if v2 < x1 then
    (mm_gr 4 3 h v1).bind fun r2 =>
    (mm_li h r2 (v2 * 3)).bind fun x3 =>
    (mm_gr 4 3 h v1).bind fun r4 =>
    (mm_li h r4 ((v2 * 3) + 1)).bind fun x5 =>
    (mm_gr 4 3 h v1).bind fun r6 =>
    (mm_li h r6 ((v2 * 3) + 2)).bind fun x7 =>
    mm_cv (f_St_seat [.ref t, .int x3, .int x5, .int x7] h) fun h8 =>
    mm_run p_St_startFrom f 78 [.ref t, .ref v1, .int (v2 + 1)] [] h8
  else
    mm_run p_St_startFrom f 126 [.ref t, .ref v1, .int 0] [] h := rfl
set_option maxRecDepth 100000 in
theorem e_St_startFrom_126 (f : Nat) (t : Nat) (v1 : Nat) (v2 : Int32) (h : mm_H) : mm_run p_St_startFrom (f + 1) 126 [.ref t, .ref v1, .int v2] [] h =
  (mm_gi 4 12 h v1).bind fun x1 =>
  if v2 < x1 then
    (mm_gr 8 1 h t).bind fun r2 =>
    (mm_gr 4 4 h v1).bind fun r3 =>
    (mm_li h r3 v2).bind fun x4 =>
    (mm_gr 4 5 h v1).bind fun r5 =>
    (mm_li h r5 v2).bind fun x6 =>
    mm_ci (f_Pt_add [.ref r2, .int x4, .int x6] h) fun x8 h7 =>
    mm_run p_St_startFrom f 126 [.ref t, .ref v1, .int (v2 + 1)] [] h7
  else
    (mm_pf 8 8 (.int 0) h t).bind fun h9 =>
    some (none, h9) := rfl
set_option maxRecDepth 100000 in
theorem i_St_startFrom (l : Launch) : mm_Imp l yX8_startFrom cX8_startFrom 3 none 5 f_St_startFrom := mm_imp l (P := p_St_startFrom) mm_cls_ok mm_sys_ok (by decide) (mm_Pok_of (List.forall_mem_cons.mpr ⟨k_X8_12, (List.forall_mem_cons.mpr ⟨k_X8_21, (List.forall_mem_cons.mpr ⟨k_X8_27, (List.forall_mem_cons.mpr ⟨k_X8_34, (List.forall_mem_cons.mpr ⟨k_X8_45, (List.forall_mem_cons.mpr ⟨k_X8_49, (List.forall_mem_cons.mpr ⟨k_X8_53, (List.forall_mem_cons.mpr ⟨k_X8_58, (List.forall_mem_cons.mpr ⟨k_X8_83, (List.forall_mem_cons.mpr ⟨k_X8_87, (List.forall_mem_cons.mpr ⟨k_X8_90, (List.forall_mem_cons.mpr ⟨k_X8_96, (List.forall_mem_cons.mpr ⟨k_X8_98, (List.forall_mem_cons.mpr ⟨k_X8_105, (List.forall_mem_cons.mpr ⟨k_X8_107, (List.forall_mem_cons.mpr ⟨k_X8_110, (fun _ h => absurd h List.not_mem_nil)⟩)⟩)⟩)⟩)⟩)⟩)⟩)⟩)⟩)⟩)⟩)⟩)⟩)⟩)⟩)⟩) (List.forall_mem_cons.mpr ⟨v_Rw_clear l q_851 (by decide), (List.forall_mem_cons.mpr ⟨v_Jb_clear l q_855 (by decide), (List.forall_mem_cons.mpr ⟨v_Lv_clear l q_859 (by decide), (List.forall_mem_cons.mpr ⟨v_St_seat l q_863 (by decide), (List.forall_mem_cons.mpr ⟨v_Pt_add l q_928 (by decide), (fun _ h => absurd h List.not_mem_nil)⟩)⟩)⟩)⟩)⟩) (fun _ h => absurd h List.not_mem_nil) (fun _ h => absurd h List.not_mem_nil)) (by decide +kernel) rfl (cats := [1, 1]) (fun as h r e => ⟨(mm_ga_inv e).1, (mm_gd_inv (mm_ga_inv e).2).1⟩) rfl (by decide)
theorem v_St_startFrom (l : Launch) {own : String} {i n0 : Nat} (hl : Cond.methodLink own i yX8_startFrom ∈ mm_tbl) (hn : 6 ≤ n0) : mm_cok l own n0 i (0, 1, 0, f_St_startFrom) := Or.inr (Or.inr ⟨rfl, yX8_startFrom, cX8_startFrom, 3, none, 5, 8, TX8, 9, i_St_startFrom l, hn, by decide, by decide +kernel, rfl, fun _ _ _ e => (mm_gd_inv (mm_ga_inv e).2).2, hl, q_848, q_849, q_174, q_850⟩)
def p_St_belongs : mm_P := ([(0, .aload_n 0, 1, 0), (1, .getfield 49, 3, 0), (4, .getfield 90, 3, 0), (7, .iload_n 1, 1, 0), (8, .iaload, 1, 0), (9, .iconst 3, 1, 3), (10, .if_icmp .ne 18, 3, 0), (13, .aload_n 0, 1, 0), (14, .getfield 49, 3, 0), (17, .getfield 120, 3, 0), (20, .aload_n 0, 1, 0), (21, .iload_n 2, 1, 0), (22, .invokevirtual 124, 3, 0), (25, .ifCond .eq 7, 3, 0), (28, .iconst 1, 1, 1), (29, .goto 4, 3, 0), (32, .iconst 0, 1, 0), (33, .ireturn, 1, 0)], [(49, 8, 6, 2), (90, 4, 0, 4), (120, 4, 7, 4)], [(124, 0, 2, 1, f_Wh_holds)], [], [], [(0, [0, 1, 2])], [], 1)
def f_St_belongs : mm_F := fun args h => mm_ga [1, 1, 1] args (mm_gd 8 args h (mm_run p_St_belongs (mm_fu + 1) 0 args [] h))
set_option maxRecDepth 100000 in
theorem e_St_belongs_0 (f : Nat) (t : Nat) (v1 : Int32) (v2 : Int32) (h : mm_H) : mm_run p_St_belongs (f + 1) 0 [.ref t, .int v1, .int v2] [] h =
  (mm_gr 8 6 h t).bind fun r1 =>
  (mm_gr 4 0 h r1).bind fun r2 =>
  (mm_li h r2 v1).bind fun x3 =>
  if x3 = 3 then
    (mm_gr 8 6 h t).bind fun r4 =>
    (mm_gr 4 7 h r4).bind fun r5 =>
    mm_ci (f_Wh_holds [.ref r5, .ref t, .int v2] h) fun x7 h6 =>
    if x7 = 0 then
      some (some (.int 0), h6)
    else
      some (some (.int 1), h6)
  else
    some (some (.int 1), h) := rfl
theorem e_St_belongs (t : Nat) (v1 : Int32) (v2 : Int32) (h : mm_H) {fs : List Value} (hb : h t = some (.inr (8, fs))) : f_St_belongs [.ref t, .int v1, .int v2] h =
  (mm_gr 8 6 h t).bind fun r1 =>
  (mm_gr 4 0 h r1).bind fun r2 =>
  (mm_li h r2 v1).bind fun x3 =>
  if x3 = 3 then
    (mm_gr 8 6 h t).bind fun r4 =>
    (mm_gr 4 7 h r4).bind fun r5 =>
    mm_ci (f_Wh_holds [.ref r5, .ref t, .int v2] h) fun x7 h6 =>
    if x7 = 0 then
      some (some (.int 0), h6)
    else
      some (some (.int 1), h6)
  else
    some (some (.int 1), h) := (mm_ga_is rfl).trans ((mm_gd_is hb).trans (e_St_belongs_0 mm_fu t v1 v2 h))
set_option maxRecDepth 100000 in
theorem i_St_belongs (l : Launch) : mm_Imp l yX8_belongs cX8_belongs 3 (some .boolean) 4 f_St_belongs := mm_imp l (P := p_St_belongs) mm_cls_ok mm_sys_ok (by decide) (mm_Pok_of (List.forall_mem_cons.mpr ⟨k_X8_49, (List.forall_mem_cons.mpr ⟨k_X8_90, (List.forall_mem_cons.mpr ⟨k_X8_120, (fun _ h => absurd h List.not_mem_nil)⟩)⟩)⟩) (List.forall_mem_cons.mpr ⟨v_Wh_holds l q_879 (by decide), (fun _ h => absurd h List.not_mem_nil)⟩) (fun _ h => absurd h List.not_mem_nil) (fun _ h => absurd h List.not_mem_nil)) (by decide +kernel) rfl (cats := [1, 1, 1]) (fun as h r e => ⟨(mm_ga_inv e).1, (mm_gd_inv (mm_ga_inv e).2).1⟩) rfl (by decide)
theorem v_St_belongs (l : Launch) {own : String} {i n0 : Nat} (hl : Cond.methodLink own i yX8_belongs ∈ mm_tbl) (hn : 5 ≤ n0) : mm_cok l own n0 i (0, 2, 1, f_St_belongs) := Or.inr (Or.inr ⟨rfl, yX8_belongs, cX8_belongs, 3, (some .boolean), 4, 8, TX8, 9, i_St_belongs l, hn, by decide, by decide +kernel, rfl, fun _ _ _ e => (mm_gd_inv (mm_ga_inv e).2).2, hl, q_1348, q_1349, q_174, q_1350⟩)
def p_St_codeOf : mm_P := ([(0, .aload_n 0, 1, 0), (1, .getfield 27, 3, 0), (4, .iload_n 1, 1, 0), (5, .aaload, 1, 0), (6, .aload_n 0, 1, 0), (7, .getfield 12, 3, 0), (10, .iload_n 2, 1, 0), (11, .aload_n 0, 1, 0), (12, .getfield 49, 3, 0), (15, .getfield 144, 3, 0), (18, .iload_n 1, 1, 0), (19, .iaload, 1, 0), (20, .invokevirtual 147, 3, 0), (23, .iload_n 2, 1, 0), (24, .invokevirtual 137, 3, 0), (27, .ireturn, 1, 0)], [(12, 8, 0, 4), (27, 8, 2, 4), (49, 8, 6, 2), (144, 4, 1, 4)], [(137, 0, 2, 1, f_Lv_code), (147, 0, 2, 1, f_Rw_valueOf)], [], [], [(0, [0, 1, 2])], [], 2)
def f_St_codeOf : mm_F := fun args h => mm_ga [1, 1, 1] args (mm_gd 8 args h (mm_run p_St_codeOf (mm_fu + 1) 0 args [] h))
set_option maxRecDepth 100000 in
theorem e_St_codeOf_0 (f : Nat) (t : Nat) (v1 : Int32) (v2 : Int32) (h : mm_H) : mm_run p_St_codeOf (f + 1) 0 [.ref t, .int v1, .int v2] [] h =
  (mm_gr 8 2 h t).bind fun r1 =>
  (mm_lr h r1 v1).bind fun r2 =>
  (mm_gr 8 0 h t).bind fun r3 =>
  (mm_gr 8 6 h t).bind fun r4 =>
  (mm_gr 4 1 h r4).bind fun r5 =>
  (mm_li h r5 v1).bind fun x6 =>
  mm_ci (f_Rw_valueOf [.ref r3, .int v2, .int x6] h) fun x8 h7 =>
  mm_ci (f_Lv_code [.ref r2, .int x8, .int v2] h7) fun x10 h9 =>
  some (some (.int x10), h9) := rfl
theorem e_St_codeOf (t : Nat) (v1 : Int32) (v2 : Int32) (h : mm_H) {fs : List Value} (hb : h t = some (.inr (8, fs))) : f_St_codeOf [.ref t, .int v1, .int v2] h =
  (mm_gr 8 2 h t).bind fun r1 =>
  (mm_lr h r1 v1).bind fun r2 =>
  (mm_gr 8 0 h t).bind fun r3 =>
  (mm_gr 8 6 h t).bind fun r4 =>
  (mm_gr 4 1 h r4).bind fun r5 =>
  (mm_li h r5 v1).bind fun x6 =>
  mm_ci (f_Rw_valueOf [.ref r3, .int v2, .int x6] h) fun x8 h7 =>
  mm_ci (f_Lv_code [.ref r2, .int x8, .int v2] h7) fun x10 h9 =>
  some (some (.int x10), h9) := (mm_ga_is rfl).trans ((mm_gd_is hb).trans (e_St_codeOf_0 mm_fu t v1 v2 h))
set_option maxRecDepth 100000 in
theorem i_St_codeOf (l : Launch) : mm_Imp l yX8_codeOf cX8_codeOf 3 (some .int) 2 f_St_codeOf := mm_imp l (P := p_St_codeOf) mm_cls_ok mm_sys_ok (by decide) (mm_Pok_of (List.forall_mem_cons.mpr ⟨k_X8_12, (List.forall_mem_cons.mpr ⟨k_X8_27, (List.forall_mem_cons.mpr ⟨k_X8_49, (List.forall_mem_cons.mpr ⟨k_X8_144, (fun _ h => absurd h List.not_mem_nil)⟩)⟩)⟩)⟩) (List.forall_mem_cons.mpr ⟨v_Lv_code l q_908 (by decide), (List.forall_mem_cons.mpr ⟨v_Rw_valueOf l q_907 (by decide), (fun _ h => absurd h List.not_mem_nil)⟩)⟩) (fun _ h => absurd h List.not_mem_nil) (fun _ h => absurd h List.not_mem_nil)) (by decide +kernel) rfl (cats := [1, 1, 1]) (fun as h r e => ⟨(mm_ga_inv e).1, (mm_gd_inv (mm_ga_inv e).2).1⟩) rfl (by decide)
theorem v_St_codeOf (l : Launch) {own : String} {i n0 : Nat} (hl : Cond.methodLink own i yX8_codeOf ∈ mm_tbl) (hn : 3 ≤ n0) : mm_cok l own n0 i (0, 2, 1, f_St_codeOf) := Or.inr (Or.inr ⟨rfl, yX8_codeOf, cX8_codeOf, 3, (some .int), 2, 8, TX8, 9, i_St_codeOf l, hn, by decide, by decide +kernel, rfl, fun _ _ _ e => (mm_gd_inv (mm_ga_inv e).2).2, hl, q_1360, q_1361, q_174, q_1362⟩)
def p_St_readable : mm_P := ([(0, .iconst 0, 1, 0), (1, .istore_n 2, 1, 0), (2, .iconst 0, 1, 0), (3, .istore_n 3, 1, 0), (4, .iload_n 3, 1, 0), (5, .aload_n 0, 1, 0), (6, .getfield 12, 3, 0), (9, .getfield 150, 3, 0), (12, .if_icmp .ge 35, 3, 0), (15, .aload_n 0, 1, 0), (16, .getfield 12, 3, 0), (19, .iload_n 3, 1, 0), (20, .invokevirtual 151, 3, 0), (23, .ifCond .eq 18, 3, 0), (26, .aload_n 0, 1, 0), (27, .iload_n 1, 1, 0), (28, .iload_n 3, 1, 0), (29, .invokevirtual 155, 3, 0), (32, .ifCond .eq 9, 3, 0), (35, .iload_n 2, 1, 0), (36, .iconst 1, 1, 1), (37, .iload_n 3, 1, 0), (38, .ishl, 1, 0), (39, .ior, 1, 0), (40, .istore_n 2, 1, 0), (41, .iinc 3 1, 3, 1), (44, .goto (-40), 3, 0), (47, .iload_n 2, 1, 0), (48, .ireturn, 1, 0)], [(12, 8, 0, 4), (150, 7, 1, 0)], [(151, 0, 1, 1, f_Rw_isVisible), (155, 0, 2, 1, f_St_belongs)], [], [], [(0, [0, 1]), (4, [0, 1, 2, 3])], [], 2)
def f_St_readable : mm_F := fun args h => mm_ga [1, 1] args (mm_gd 8 args h (mm_run p_St_readable (mm_fu + 1) 0 args [] h))
set_option maxRecDepth 100000 in
theorem e_St_readable_0 (f : Nat) (t : Nat) (v1 : Int32) (h : mm_H) : mm_run p_St_readable (f + 1) 0 [.ref t, .int v1] [] h =
  mm_run p_St_readable f 4 [.ref t, .int v1, .int 0, .int 0] [] h := rfl
theorem e_St_readable (t : Nat) (v1 : Int32) (h : mm_H) {fs : List Value} (hb : h t = some (.inr (8, fs))) : f_St_readable [.ref t, .int v1] h =
  mm_run p_St_readable mm_fu 4 [.ref t, .int v1, .int 0, .int 0] [] h := (mm_ga_is rfl).trans ((mm_gd_is hb).trans (e_St_readable_0 mm_fu t v1 h))
set_option maxRecDepth 100000 in
theorem e_St_readable_4 (f : Nat) (t : Nat) (v1 : Int32) (v2 : Int32) (v3 : Int32) (h : mm_H) : mm_run p_St_readable (f + 1) 4 [.ref t, .int v1, .int v2, .int v3] [] h =
  (mm_gr 8 0 h t).bind fun r1 =>
  (mm_gi 7 1 h r1).bind fun x2 =>
  if v3 < x2 then
    (mm_gr 8 0 h t).bind fun r3 =>
    mm_ci (f_Rw_isVisible [.ref r3, .int v3] h) fun x5 h4 =>
    if x5 = 0 then
      mm_run p_St_readable f 4 [.ref t, .int v1, .int v2, .int (v3 + 1)] [] h4
    else
      mm_ci (f_St_belongs [.ref t, .int v1, .int v3] h4) fun x7 h6 =>
      if x7 = 0 then
        mm_run p_St_readable f 4 [.ref t, .int v1, .int v2, .int (v3 + 1)] [] h6
      else
        mm_run p_St_readable f 4 [.ref t, .int v1, .int (v2 ||| (1 <<< (v3 &&& 31))), .int (v3 + 1)] [] h6
  else
    some (some (.int v2), h) := rfl
set_option maxRecDepth 100000 in
theorem i_St_readable (l : Launch) : mm_Imp l yX8_readable cX8_readable 4 (some .int) 5 f_St_readable := mm_imp l (P := p_St_readable) mm_cls_ok mm_sys_ok (by decide) (mm_Pok_of (List.forall_mem_cons.mpr ⟨k_X8_12, (List.forall_mem_cons.mpr ⟨k_X8_150, (fun _ h => absurd h List.not_mem_nil)⟩)⟩) (List.forall_mem_cons.mpr ⟨v_Rw_isVisible l q_1109 (by decide), (List.forall_mem_cons.mpr ⟨v_St_belongs l q_1347 (by decide), (fun _ h => absurd h List.not_mem_nil)⟩)⟩) (fun _ h => absurd h List.not_mem_nil) (fun _ h => absurd h List.not_mem_nil)) (by decide +kernel) rfl (cats := [1, 1]) (fun as h r e => ⟨(mm_ga_inv e).1, (mm_gd_inv (mm_ga_inv e).2).1⟩) rfl (by decide)
theorem v_St_readable (l : Launch) {own : String} {i n0 : Nat} (hl : Cond.methodLink own i yX8_readable ∈ mm_tbl) (hn : 6 ≤ n0) : mm_cok l own n0 i (0, 1, 1, f_St_readable) := Or.inr (Or.inr ⟨rfl, yX8_readable, cX8_readable, 4, (some .int), 5, 8, TX8, 9, i_St_readable l, hn, by decide, by decide +kernel, rfl, fun _ _ _ e => (mm_gd_inv (mm_ga_inv e).2).2, hl, q_1344, q_1345, q_174, q_1346⟩)
def p_St_treesHolding : mm_P := ([(0, .iconst 0, 1, 0), (1, .istore_n 2, 1, 0), (2, .iconst 0, 1, 0), (3, .istore_n 3, 1, 0), (4, .iload_n 3, 1, 0), (5, .aload_n 0, 1, 0), (6, .getfield 49, 3, 0), (9, .getfield 134, 3, 0), (12, .if_icmp .ge 27, 3, 0), (15, .iload_n 2, 1, 0), (16, .aload_n 0, 1, 0), (17, .getfield 27, 3, 0), (20, .iload_n 3, 1, 0), (21, .aaload, 1, 0), (22, .invokevirtual 159, 3, 0), (25, .iload_n 1, 1, 0), (26, .ishr, 1, 0), (27, .iconst 1, 1, 1), (28, .iand, 1, 0), (29, .iload_n 3, 1, 0), (30, .ishl, 1, 0), (31, .ior, 1, 0), (32, .istore_n 2, 1, 0), (33, .iinc 3 1, 3, 1), (36, .goto (-32), 3, 0), (39, .iload_n 2, 1, 0), (40, .ireturn, 1, 0)], [(27, 8, 2, 4), (49, 8, 6, 2), (134, 4, 10, 0)], [(159, 0, 0, 1, f_Lv_rowBits)], [], [], [(0, [0, 1]), (4, [0, 1, 2, 3])], [], 2)
def f_St_treesHolding : mm_F := fun args h => mm_ga [1, 1] args (mm_gd 8 args h (mm_run p_St_treesHolding (mm_fu + 1) 0 args [] h))
set_option maxRecDepth 100000 in
theorem e_St_treesHolding_0 (f : Nat) (t : Nat) (v1 : Int32) (h : mm_H) : mm_run p_St_treesHolding (f + 1) 0 [.ref t, .int v1] [] h =
  mm_run p_St_treesHolding f 4 [.ref t, .int v1, .int 0, .int 0] [] h := rfl
theorem e_St_treesHolding (t : Nat) (v1 : Int32) (h : mm_H) {fs : List Value} (hb : h t = some (.inr (8, fs))) : f_St_treesHolding [.ref t, .int v1] h =
  mm_run p_St_treesHolding mm_fu 4 [.ref t, .int v1, .int 0, .int 0] [] h := (mm_ga_is rfl).trans ((mm_gd_is hb).trans (e_St_treesHolding_0 mm_fu t v1 h))
set_option maxRecDepth 100000 in
theorem e_St_treesHolding_4 (f : Nat) (t : Nat) (v1 : Int32) (v2 : Int32) (v3 : Int32) (h : mm_H) : mm_run p_St_treesHolding (f + 1) 4 [.ref t, .int v1, .int v2, .int v3] [] h =
  (mm_gr 8 6 h t).bind fun r1 =>
  (mm_gi 4 10 h r1).bind fun x2 =>
  if v3 < x2 then
    (mm_gr 8 2 h t).bind fun r3 =>
    (mm_lr h r3 v3).bind fun r4 =>
    mm_ci (f_Lv_rowBits [.ref r4] h) fun x6 h5 =>
    mm_run p_St_treesHolding f 4 [.ref t, .int v1, .int (v2 ||| (((x6 >>> (v1 &&& 31)) &&& 1) <<< (v3 &&& 31))), .int (v3 + 1)] [] h5
  else
    some (some (.int v2), h) := rfl
set_option maxRecDepth 100000 in
theorem i_St_treesHolding (l : Launch) : mm_Imp l yX8_treesHolding cX8_treesHolding 4 (some .int) 2 f_St_treesHolding := mm_imp l (P := p_St_treesHolding) mm_cls_ok mm_sys_ok (by decide) (mm_Pok_of (List.forall_mem_cons.mpr ⟨k_X8_27, (List.forall_mem_cons.mpr ⟨k_X8_49, (List.forall_mem_cons.mpr ⟨k_X8_134, (fun _ h => absurd h List.not_mem_nil)⟩)⟩)⟩) (List.forall_mem_cons.mpr ⟨v_Lv_rowBits l q_966 (by decide), (fun _ h => absurd h List.not_mem_nil)⟩) (fun _ h => absurd h List.not_mem_nil) (fun _ h => absurd h List.not_mem_nil)) (by decide +kernel) rfl (cats := [1, 1]) (fun as h r e => ⟨(mm_ga_inv e).1, (mm_gd_inv (mm_ga_inv e).2).1⟩) rfl (by decide)
theorem v_St_treesHolding (l : Launch) {own : String} {i n0 : Nat} (hl : Cond.methodLink own i yX8_treesHolding ∈ mm_tbl) (hn : 3 ≤ n0) : mm_cok l own n0 i (0, 1, 1, f_St_treesHolding) := Or.inr (Or.inr ⟨rfl, yX8_treesHolding, cX8_treesHolding, 4, (some .int), 2, 8, TX8, 9, i_St_treesHolding l, hn, by decide, by decide +kernel, rfl, fun _ _ _ e => (mm_gd_inv (mm_ga_inv e).2).2, hl, q_963, q_964, q_174, q_965⟩)
def p_St_staleRows : mm_P := ([(0, .aload_n 0, 1, 0), (1, .getfield 27, 3, 0), (4, .iload_n 1, 1, 0), (5, .aaload, 1, 0), (6, .astore_n 2, 1, 0), (7, .iconst 0, 1, 0), (8, .istore_n 3, 1, 0), (9, .iconst 0, 1, 0), (10, .istore 4, 2, 0), (12, .iload 4, 2, 0), (14, .aload_n 2, 1, 0), (15, .getfield 163, 3, 0), (18, .if_icmp .ge 82, 3, 0), (21, .aload_n 2, 1, 0), (22, .getfield 166, 3, 0), (25, .iload 4, 2, 0), (27, .iaload, 1, 0), (28, .invokestatic 169, 3, 0), (31, .istore 5, 2, 0), (33, .aload_n 0, 1, 0), (34, .getfield 12, 3, 0), (37, .getfield 173, 3, 0), (40, .iload 5, 2, 0), (42, .ishr, 1, 0), (43, .iconst 1, 1, 1), (44, .iand, 1, 0), (45, .ifCond .eq 7, 3, 0), (48, .iconst 1, 1, 1), (49, .goto 4, 3, 0), (52, .iconst 0, 1, 0), (53, .istore 6, 2, 0), (55, .iload 6, 2, 0), (57, .ifCond .eq 30, 3, 0), (60, .aload_n 0, 1, 0), (61, .iload_n 1, 1, 0), (62, .iload 5, 2, 0), (64, .invokevirtual 176, 3, 0), (67, .aload_n 2, 1, 0), (68, .getfield 166, 3, 0), (71, .iload 4, 2, 0), (73, .iaload, 1, 0), (74, .if_icmp .ne 13, 3, 0), (77, .aload_n 0, 1, 0), (78, .iload_n 1, 1, 0), (79, .iload 5, 2, 0), (81, .invokevirtual 155, 3, 0), (84, .ifCond .ne 10, 3, 0), (87, .iload_n 3, 1, 0), (88, .iconst 1, 1, 1), (89, .iload 5, 2, 0), (91, .ishl, 1, 0), (92, .ior, 1, 0), (93, .istore_n 3, 1, 0), (94, .iinc 4 1, 3, 1), (97, .goto (-85), 3, 0), (100, .iload_n 3, 1, 0), (101, .ireturn, 1, 0)], [(12, 8, 0, 4), (27, 8, 2, 4), (163, 2, 2, 0), (166, 2, 0, 4), (173, 7, 2, 0)], [(155, 0, 2, 1, f_St_belongs), (169, 1, 1, 1, f_Lv_rowIn), (176, 0, 2, 1, f_St_codeOf)], [], [], [(0, [0, 1]), (12, [0, 1, 2, 3, 4])], [], 2)
def f_St_staleRows : mm_F := fun args h => mm_ga [1, 1] args (mm_gd 8 args h (mm_run p_St_staleRows (mm_fu + 1) 0 args [] h))
set_option maxRecDepth 100000 in
theorem e_St_staleRows_0 (f : Nat) (t : Nat) (v1 : Int32) (h : mm_H) : mm_run p_St_staleRows (f + 1) 0 [.ref t, .int v1] [] h =
  (mm_gr 8 2 h t).bind fun r1 =>
  (mm_lr h r1 v1).bind fun r2 =>
  mm_run p_St_staleRows f 12 [.ref t, .int v1, .ref r2, .int 0, .int 0] [] h := rfl
theorem e_St_staleRows (t : Nat) (v1 : Int32) (h : mm_H) {fs : List Value} (hb : h t = some (.inr (8, fs))) : f_St_staleRows [.ref t, .int v1] h =
  (mm_gr 8 2 h t).bind fun r1 =>
  (mm_lr h r1 v1).bind fun r2 =>
  mm_run p_St_staleRows mm_fu 12 [.ref t, .int v1, .ref r2, .int 0, .int 0] [] h := (mm_ga_is rfl).trans ((mm_gd_is hb).trans (e_St_staleRows_0 mm_fu t v1 h))
set_option maxRecDepth 100000 in
theorem e_St_staleRows_12 (f : Nat) (t : Nat) (v1 : Int32) (v2 : Nat) (v3 : Int32) (v4 : Int32) (h : mm_H) : mm_run p_St_staleRows (f + 1) 12 [.ref t, .int v1, .ref v2, .int v3, .int v4] [] h =
  (mm_gi 2 2 h v2).bind fun x1 =>
  if v4 < x1 then
    (mm_gr 2 0 h v2).bind fun r2 =>
    (mm_li h r2 v4).bind fun x3 =>
    mm_ci (f_Lv_rowIn [.int x3] h) fun x5 h4 =>
    (mm_gr 8 0 h4 t).bind fun r6 =>
    (mm_gi 7 2 h4 r6).bind fun x7 =>
    if ((x7 >>> (x5 &&& 31)) &&& 1) = 0 then
      mm_run p_St_staleRows f 12 [.ref t, .int v1, .ref v2, .int (v3 ||| (1 <<< (x5 &&& 31))), .int (v4 + 1)] [] h4
    else
      mm_ci (f_St_codeOf [.ref t, .int v1, .int x5] h4) fun x9 h8 =>
      (mm_gr 2 0 h8 v2).bind fun r10 =>
      (mm_li h8 r10 v4).bind fun x11 =>
      if x9 = x11 then
        mm_ci (f_St_belongs [.ref t, .int v1, .int x5] h8) fun x13 h12 =>
        if x13 = 0 then
          mm_run p_St_staleRows f 12 [.ref t, .int v1, .ref v2, .int (v3 ||| (1 <<< (x5 &&& 31))), .int (v4 + 1)] [] h12
        else
          mm_run p_St_staleRows f 12 [.ref t, .int v1, .ref v2, .int v3, .int (v4 + 1)] [] h12
      else
        mm_run p_St_staleRows f 12 [.ref t, .int v1, .ref v2, .int (v3 ||| (1 <<< (x5 &&& 31))), .int (v4 + 1)] [] h8
  else
    some (some (.int v3), h) := rfl
set_option maxRecDepth 100000 in
theorem i_St_staleRows (l : Launch) : mm_Imp l yX8_staleRows cX8_staleRows 7 (some .int) 5 f_St_staleRows := mm_imp l (P := p_St_staleRows) mm_cls_ok mm_sys_ok (by decide) (mm_Pok_of (List.forall_mem_cons.mpr ⟨k_X8_12, (List.forall_mem_cons.mpr ⟨k_X8_27, (List.forall_mem_cons.mpr ⟨k_X8_163, (List.forall_mem_cons.mpr ⟨k_X8_166, (List.forall_mem_cons.mpr ⟨k_X8_173, (fun _ h => absurd h List.not_mem_nil)⟩)⟩)⟩)⟩)⟩) (List.forall_mem_cons.mpr ⟨v_St_belongs l q_1347 (by decide), (List.forall_mem_cons.mpr ⟨v_Lv_rowIn l (Or.inl q_1376) (by decide), (List.forall_mem_cons.mpr ⟨v_St_codeOf l q_1377 (by decide), (fun _ h => absurd h List.not_mem_nil)⟩)⟩)⟩) (fun _ h => absurd h List.not_mem_nil) (fun _ h => absurd h List.not_mem_nil)) (by decide +kernel) rfl (cats := [1, 1]) (fun as h r e => ⟨(mm_ga_inv e).1, (mm_gd_inv (mm_ga_inv e).2).1⟩) rfl (by decide)
theorem v_St_staleRows (l : Launch) {own : String} {i n0 : Nat} (hl : Cond.methodLink own i yX8_staleRows ∈ mm_tbl) (hn : 6 ≤ n0) : mm_cok l own n0 i (0, 1, 1, f_St_staleRows) := Or.inr (Or.inr ⟨rfl, yX8_staleRows, cX8_staleRows, 7, (some .int), 5, 8, TX8, 9, i_St_staleRows l, hn, by decide, by decide +kernel, rfl, fun _ _ _ e => (mm_gd_inv (mm_ga_inv e).2).2, hl, q_1373, q_1374, q_174, q_1375⟩)
def p_St_missingRows : mm_P := ([(0, .aload_n 0, 1, 0), (1, .iload_n 1, 1, 0), (2, .invokevirtual 179, 3, 0), (5, .istore_n 2, 1, 0), (6, .iconst 0, 1, 0), (7, .istore_n 3, 1, 0), (8, .iconst 0, 1, 0), (9, .istore 4, 2, 0), (11, .iload 4, 2, 0), (13, .aload_n 0, 1, 0), (14, .getfield 12, 3, 0), (17, .getfield 150, 3, 0), (20, .if_icmp .ge 44, 3, 0), (23, .iload_n 2, 1, 0), (24, .iload 4, 2, 0), (26, .ishr, 1, 0), (27, .iconst 1, 1, 1), (28, .iand, 1, 0), (29, .ifCond .eq 29, 3, 0), (32, .aload_n 0, 1, 0), (33, .getfield 27, 3, 0), (36, .iload_n 1, 1, 0), (37, .aaload, 1, 0), (38, .aload_n 0, 1, 0), (39, .iload_n 1, 1, 0), (40, .iload 4, 2, 0), (42, .invokevirtual 176, 3, 0), (45, .invokevirtual 182, 3, 0), (48, .ifCond .ne 10, 3, 0), (51, .iload_n 3, 1, 0), (52, .iconst 1, 1, 1), (53, .iload 4, 2, 0), (55, .ishl, 1, 0), (56, .ior, 1, 0), (57, .istore_n 3, 1, 0), (58, .iinc 4 1, 3, 1), (61, .goto (-50), 3, 0), (64, .iload_n 3, 1, 0), (65, .ireturn, 1, 0)], [(12, 8, 0, 4), (27, 8, 2, 4), (150, 7, 1, 0)], [(176, 0, 2, 1, f_St_codeOf), (179, 0, 1, 1, f_St_readable), (182, 0, 1, 1, f_Lv_holdsCode)], [], [], [(0, [0, 1]), (11, [0, 1, 2, 3, 4])], [], 2)
def f_St_missingRows : mm_F := fun args h => mm_ga [1, 1] args (mm_gd 8 args h (mm_run p_St_missingRows (mm_fu + 1) 0 args [] h))
set_option maxRecDepth 100000 in
theorem e_St_missingRows_0 (f : Nat) (t : Nat) (v1 : Int32) (h : mm_H) : mm_run p_St_missingRows (f + 1) 0 [.ref t, .int v1] [] h =
  mm_ci (f_St_readable [.ref t, .int v1] h) fun x2 h1 =>
  mm_run p_St_missingRows f 11 [.ref t, .int v1, .int x2, .int 0, .int 0] [] h1 := rfl
theorem e_St_missingRows (t : Nat) (v1 : Int32) (h : mm_H) {fs : List Value} (hb : h t = some (.inr (8, fs))) : f_St_missingRows [.ref t, .int v1] h =
  mm_ci (f_St_readable [.ref t, .int v1] h) fun x2 h1 =>
  mm_run p_St_missingRows mm_fu 11 [.ref t, .int v1, .int x2, .int 0, .int 0] [] h1 := (mm_ga_is rfl).trans ((mm_gd_is hb).trans (e_St_missingRows_0 mm_fu t v1 h))
set_option maxRecDepth 100000 in
theorem e_St_missingRows_11 (f : Nat) (t : Nat) (v1 : Int32) (v2 : Int32) (v3 : Int32) (v4 : Int32) (h : mm_H) : mm_run p_St_missingRows (f + 1) 11 [.ref t, .int v1, .int v2, .int v3, .int v4] [] h =
  (mm_gr 8 0 h t).bind fun r1 =>
  (mm_gi 7 1 h r1).bind fun x2 =>
  if v4 < x2 then
    if ((v2 >>> (v4 &&& 31)) &&& 1) = 0 then
      mm_run p_St_missingRows f 11 [.ref t, .int v1, .int v2, .int v3, .int (v4 + 1)] [] h
    else
      (mm_gr 8 2 h t).bind fun r3 =>
      (mm_lr h r3 v1).bind fun r4 =>
      mm_ci (f_St_codeOf [.ref t, .int v1, .int v4] h) fun x6 h5 =>
      mm_ci (f_Lv_holdsCode [.ref r4, .int x6] h5) fun x8 h7 =>
      if x8 = 0 then
        mm_run p_St_missingRows f 11 [.ref t, .int v1, .int v2, .int (v3 ||| (1 <<< (v4 &&& 31))), .int (v4 + 1)] [] h7
      else
        mm_run p_St_missingRows f 11 [.ref t, .int v1, .int v2, .int v3, .int (v4 + 1)] [] h7
  else
    some (some (.int v3), h) := rfl
set_option maxRecDepth 100000 in
theorem i_St_missingRows (l : Launch) : mm_Imp l yX8_missingRows cX8_missingRows 5 (some .int) 6 f_St_missingRows := mm_imp l (P := p_St_missingRows) mm_cls_ok mm_sys_ok (by decide) (mm_Pok_of (List.forall_mem_cons.mpr ⟨k_X8_12, (List.forall_mem_cons.mpr ⟨k_X8_27, (List.forall_mem_cons.mpr ⟨k_X8_150, (fun _ h => absurd h List.not_mem_nil)⟩)⟩)⟩) (List.forall_mem_cons.mpr ⟨v_St_codeOf l q_1377 (by decide), (List.forall_mem_cons.mpr ⟨v_St_readable l q_1398 (by decide), (List.forall_mem_cons.mpr ⟨v_Lv_holdsCode l q_1399 (by decide), (fun _ h => absurd h List.not_mem_nil)⟩)⟩)⟩) (fun _ h => absurd h List.not_mem_nil) (fun _ h => absurd h List.not_mem_nil)) (by decide +kernel) rfl (cats := [1, 1]) (fun as h r e => ⟨(mm_ga_inv e).1, (mm_gd_inv (mm_ga_inv e).2).1⟩) rfl (by decide)
theorem v_St_missingRows (l : Launch) {own : String} {i n0 : Nat} (hl : Cond.methodLink own i yX8_missingRows ∈ mm_tbl) (hn : 7 ≤ n0) : mm_cok l own n0 i (0, 1, 1, f_St_missingRows) := Or.inr (Or.inr ⟨rfl, yX8_missingRows, cX8_missingRows, 5, (some .int), 6, 8, TX8, 9, i_St_missingRows l, hn, by decide, by decide +kernel, rfl, fun _ _ _ e => (mm_gd_inv (mm_ga_inv e).2).2, hl, q_1395, q_1396, q_174, q_1397⟩)
def p_St_leavesOfAll : mm_P := ([(0, .iconst 0, 1, 0), (1, .istore_n 1, 1, 0), (2, .iconst 0, 1, 0), (3, .istore_n 2, 1, 0), (4, .iload_n 2, 1, 0), (5, .aload_n 0, 1, 0), (6, .getfield 49, 3, 0), (9, .getfield 134, 3, 0), (12, .if_icmp .ge 21, 3, 0), (15, .iload_n 1, 1, 0), (16, .aload_n 0, 1, 0), (17, .getfield 27, 3, 0), (20, .iload_n 2, 1, 0), (21, .aaload, 1, 0), (22, .getfield 185, 3, 0), (25, .iadd, 1, 0), (26, .istore_n 1, 1, 0), (27, .iinc 2 1, 3, 1), (30, .goto (-26), 3, 0), (33, .iload_n 1, 1, 0), (34, .ireturn, 1, 0)], [(27, 8, 2, 4), (49, 8, 6, 2), (134, 4, 10, 0), (185, 2, 3, 0)], [], [], [], [(0, [0]), (4, [0, 1, 2])], [], 2)
def f_St_leavesOfAll : mm_F := fun args h => mm_ga [1] args (mm_gd 8 args h (mm_run p_St_leavesOfAll (mm_fu + 1) 0 args [] h))
set_option maxRecDepth 100000 in
theorem e_St_leavesOfAll_0 (f : Nat) (t : Nat) (h : mm_H) : mm_run p_St_leavesOfAll (f + 1) 0 [.ref t] [] h =
  mm_run p_St_leavesOfAll f 4 [.ref t, .int 0, .int 0] [] h := rfl
theorem e_St_leavesOfAll (t : Nat) (h : mm_H) {fs : List Value} (hb : h t = some (.inr (8, fs))) : f_St_leavesOfAll [.ref t] h =
  mm_run p_St_leavesOfAll mm_fu 4 [.ref t, .int 0, .int 0] [] h := (mm_ga_is rfl).trans ((mm_gd_is hb).trans (e_St_leavesOfAll_0 mm_fu t h))
set_option maxRecDepth 100000 in
theorem e_St_leavesOfAll_4 (f : Nat) (t : Nat) (v1 : Int32) (v2 : Int32) (h : mm_H) : mm_run p_St_leavesOfAll (f + 1) 4 [.ref t, .int v1, .int v2] [] h =
  (mm_gr 8 6 h t).bind fun r1 =>
  (mm_gi 4 10 h r1).bind fun x2 =>
  if v2 < x2 then
    (mm_gr 8 2 h t).bind fun r3 =>
    (mm_lr h r3 v2).bind fun r4 =>
    (mm_gi 2 3 h r4).bind fun x5 =>
    mm_run p_St_leavesOfAll f 4 [.ref t, .int (v1 + x5), .int (v2 + 1)] [] h
  else
    some (some (.int v1), h) := rfl
set_option maxRecDepth 100000 in
theorem i_St_leavesOfAll (l : Launch) : mm_Imp l yX8_leavesOfAll cX8_leavesOfAll 3 (some .int) 1 f_St_leavesOfAll := mm_imp l (P := p_St_leavesOfAll) mm_cls_ok mm_sys_ok (by decide) (mm_Pok_of (List.forall_mem_cons.mpr ⟨k_X8_27, (List.forall_mem_cons.mpr ⟨k_X8_49, (List.forall_mem_cons.mpr ⟨k_X8_134, (List.forall_mem_cons.mpr ⟨k_X8_185, (fun _ h => absurd h List.not_mem_nil)⟩)⟩)⟩)⟩) (fun _ h => absurd h List.not_mem_nil) (fun _ h => absurd h List.not_mem_nil) (fun _ h => absurd h List.not_mem_nil)) (by decide +kernel) rfl (cats := [1]) (fun as h r e => ⟨(mm_ga_inv e).1, (mm_gd_inv (mm_ga_inv e).2).1⟩) rfl (by decide)
theorem v_St_leavesOfAll (l : Launch) {own : String} {i n0 : Nat} (hl : Cond.methodLink own i yX8_leavesOfAll ∈ mm_tbl) (hn : 2 ≤ n0) : mm_cok l own n0 i (0, 0, 1, f_St_leavesOfAll) := Or.inr (Or.inr ⟨rfl, yX8_leavesOfAll, cX8_leavesOfAll, 3, (some .int), 1, 8, TX8, 9, i_St_leavesOfAll l, hn, by decide, by decide +kernel, rfl, fun _ _ _ e => (mm_gd_inv (mm_ga_inv e).2).2, hl, q_1499, q_1500, q_174, q_1501⟩)
def p_St_doomed : mm_P := ([(0, .aload_n 0, 1, 0), (1, .getfield 34, 3, 0), (4, .getfield 194, 3, 0), (7, .ifCond .eq 13, 3, 0), (10, .aload_n 0, 1, 0), (11, .getfield 12, 3, 0), (14, .getfield 198, 3, 0), (17, .goto 10, 3, 0), (20, .aload_n 0, 1, 0), (21, .iconst (-1), 1, (-1)), (22, .iconst 0, 1, 0), (23, .iconst 0, 1, 0), (24, .invokevirtual 201, 3, 0), (27, .ireturn, 1, 0)], [(12, 8, 0, 4), (34, 8, 3, 4), (194, 1, 3, 1), (198, 7, 3, 0)], [(201, 0, 3, 1, f_St_eligible)], [], [], [(0, [0])], [], 2)
def f_St_doomed : mm_F := fun args h => mm_ga [1] args (mm_gd 8 args h (mm_run p_St_doomed (mm_fu + 1) 0 args [] h))
set_option maxRecDepth 100000 in
theorem e_St_doomed_0 (f : Nat) (t : Nat) (h : mm_H) : mm_run p_St_doomed (f + 1) 0 [.ref t] [] h =
  (mm_gr 8 3 h t).bind fun r1 =>
  (mm_gi 1 3 h r1).bind fun x2 =>
  if x2 = 0 then
    mm_ci (f_St_eligible [.ref t, .int (-1), .int 0, .int 0] h) fun x4 h3 =>
    some (some (.int x4), h3)
  else
    (mm_gr 8 0 h t).bind fun r5 =>
    (mm_gi 7 3 h r5).bind fun x6 =>
    some (some (.int x6), h) := rfl
theorem e_St_doomed (t : Nat) (h : mm_H) {fs : List Value} (hb : h t = some (.inr (8, fs))) : f_St_doomed [.ref t] h =
  (mm_gr 8 3 h t).bind fun r1 =>
  (mm_gi 1 3 h r1).bind fun x2 =>
  if x2 = 0 then
    mm_ci (f_St_eligible [.ref t, .int (-1), .int 0, .int 0] h) fun x4 h3 =>
    some (some (.int x4), h3)
  else
    (mm_gr 8 0 h t).bind fun r5 =>
    (mm_gi 7 3 h r5).bind fun x6 =>
    some (some (.int x6), h) := (mm_ga_is rfl).trans ((mm_gd_is hb).trans (e_St_doomed_0 mm_fu t h))
set_option maxRecDepth 100000 in
theorem i_St_doomed (l : Launch) : mm_Imp l yX8_doomed cX8_doomed 1 (some .int) 5 f_St_doomed := mm_imp l (P := p_St_doomed) mm_cls_ok mm_sys_ok (by decide) (mm_Pok_of (List.forall_mem_cons.mpr ⟨k_X8_12, (List.forall_mem_cons.mpr ⟨k_X8_34, (List.forall_mem_cons.mpr ⟨k_X8_194, (List.forall_mem_cons.mpr ⟨k_X8_198, (fun _ h => absurd h List.not_mem_nil)⟩)⟩)⟩)⟩) (List.forall_mem_cons.mpr ⟨v_St_eligible l q_1177 (by decide), (fun _ h => absurd h List.not_mem_nil)⟩) (fun _ h => absurd h List.not_mem_nil) (fun _ h => absurd h List.not_mem_nil)) (by decide +kernel) rfl (cats := [1]) (fun as h r e => ⟨(mm_ga_inv e).1, (mm_gd_inv (mm_ga_inv e).2).1⟩) rfl (by decide)
theorem v_St_doomed (l : Launch) {own : String} {i n0 : Nat} (hl : Cond.methodLink own i yX8_doomed ∈ mm_tbl) (hn : 6 ≤ n0) : mm_cok l own n0 i (0, 0, 1, f_St_doomed) := Or.inr (Or.inr ⟨rfl, yX8_doomed, cX8_doomed, 1, (some .int), 5, 8, TX8, 9, i_St_doomed l, hn, by decide, by decide +kernel, rfl, fun _ _ _ e => (mm_gd_inv (mm_ga_inv e).2).2, hl, q_1434, q_1435, q_174, q_1436⟩)
def p_St_leftOf : mm_P := ([(0, .aload_n 0, 1, 0), (1, .getfield 27, 3, 0), (4, .iload_n 1, 1, 0), (5, .aaload, 1, 0), (6, .invokevirtual 159, 3, 0), (9, .aload_n 0, 1, 0), (10, .invokevirtual 204, 3, 0), (13, .iand, 1, 0), (14, .ireturn, 1, 0)], [(27, 8, 2, 4)], [(159, 0, 0, 1, f_Lv_rowBits), (204, 0, 0, 1, f_St_doomed)], [], [], [(0, [0, 1])], [], 2)
def f_St_leftOf : mm_F := fun args h => mm_ga [1, 1] args (mm_gd 8 args h (mm_run p_St_leftOf (mm_fu + 1) 0 args [] h))
set_option maxRecDepth 100000 in
theorem e_St_leftOf_0 (f : Nat) (t : Nat) (v1 : Int32) (h : mm_H) : mm_run p_St_leftOf (f + 1) 0 [.ref t, .int v1] [] h =
  (mm_gr 8 2 h t).bind fun r1 =>
  (mm_lr h r1 v1).bind fun r2 =>
  mm_ci (f_Lv_rowBits [.ref r2] h) fun x4 h3 =>
  mm_ci (f_St_doomed [.ref t] h3) fun x6 h5 =>
  some (some (.int (x4 &&& x6)), h5) := rfl
theorem e_St_leftOf (t : Nat) (v1 : Int32) (h : mm_H) {fs : List Value} (hb : h t = some (.inr (8, fs))) : f_St_leftOf [.ref t, .int v1] h =
  (mm_gr 8 2 h t).bind fun r1 =>
  (mm_lr h r1 v1).bind fun r2 =>
  mm_ci (f_Lv_rowBits [.ref r2] h) fun x4 h3 =>
  mm_ci (f_St_doomed [.ref t] h3) fun x6 h5 =>
  some (some (.int (x4 &&& x6)), h5) := (mm_ga_is rfl).trans ((mm_gd_is hb).trans (e_St_leftOf_0 mm_fu t v1 h))
set_option maxRecDepth 100000 in
theorem i_St_leftOf (l : Launch) : mm_Imp l yX8_leftOf cX8_leftOf 2 (some .int) 6 f_St_leftOf := mm_imp l (P := p_St_leftOf) mm_cls_ok mm_sys_ok (by decide) (mm_Pok_of (List.forall_mem_cons.mpr ⟨k_X8_27, (fun _ h => absurd h List.not_mem_nil)⟩) (List.forall_mem_cons.mpr ⟨v_Lv_rowBits l q_966 (by decide), (List.forall_mem_cons.mpr ⟨v_St_doomed l q_1468 (by decide), (fun _ h => absurd h List.not_mem_nil)⟩)⟩) (fun _ h => absurd h List.not_mem_nil) (fun _ h => absurd h List.not_mem_nil)) (by decide +kernel) rfl (cats := [1, 1]) (fun as h r e => ⟨(mm_ga_inv e).1, (mm_gd_inv (mm_ga_inv e).2).1⟩) rfl (by decide)
theorem v_St_leftOf (l : Launch) {own : String} {i n0 : Nat} (hl : Cond.methodLink own i yX8_leftOf ∈ mm_tbl) (hn : 7 ≤ n0) : mm_cok l own n0 i (0, 1, 1, f_St_leftOf) := Or.inr (Or.inr ⟨rfl, yX8_leftOf, cX8_leftOf, 2, (some .int), 6, 8, TX8, 9, i_St_leftOf l, hn, by decide, by decide +kernel, rfl, fun _ _ _ e => (mm_gd_inv (mm_ga_inv e).2).2, hl, q_1465, q_1466, q_174, q_1467⟩)
def p_St_leftWhereAt : mm_P := ([(0, .aload_n 0, 1, 0), (1, .getfield 34, 3, 0), (4, .getfield 194, 3, 0), (7, .ifCond .eq 24, 3, 0), (10, .aload_n 0, 1, 0), (11, .getfield 34, 3, 0), (14, .getfield 207, 3, 0), (17, .aload_n 0, 1, 0), (18, .getfield 49, 3, 0), (21, .getfield 134, 3, 0), (24, .if_icmp .ge 7, 3, 0), (27, .iconst 1, 1, 1), (28, .goto 4, 3, 0), (31, .iconst 0, 1, 0), (32, .istore_n 1, 1, 0), (33, .iload_n 1, 1, 0), (34, .ifCond .eq 32, 3, 0), (37, .aload_n 0, 1, 0), (38, .getfield 27, 3, 0), (41, .aload_n 0, 1, 0), (42, .getfield 34, 3, 0), (45, .getfield 207, 3, 0), (48, .aaload, 1, 0), (49, .invokevirtual 159, 3, 0), (52, .aload_n 0, 1, 0), (53, .getfield 12, 3, 0), (56, .getfield 198, 3, 0), (59, .iand, 1, 0), (60, .invokestatic 210, 3, 0), (63, .goto 4, 3, 0), (66, .iconst 0, 1, 0), (67, .ireturn, 1, 0)], [(12, 8, 0, 4), (27, 8, 2, 4), (34, 8, 3, 4), (49, 8, 6, 2), (134, 4, 10, 0), (194, 1, 3, 1), (198, 7, 3, 0), (207, 1, 5, 0)], [(159, 0, 0, 1, f_Lv_rowBits), (210, 1, 1, 1, f_Ji_bitCount)], [], [], [(0, [0])], [], 2)
def f_St_leftWhereAt : mm_F := fun args h => mm_ga [1] args (mm_gd 8 args h (mm_run p_St_leftWhereAt (mm_fu + 1) 0 args [] h))
set_option maxRecDepth 100000 in
theorem e_St_leftWhereAt_0 (f : Nat) (t : Nat) (h : mm_H) : mm_run p_St_leftWhereAt (f + 1) 0 [.ref t] [] h =
  (mm_gr 8 3 h t).bind fun r1 =>
  (mm_gi 1 3 h r1).bind fun x2 =>
  if x2 = 0 then
    some (some (.int 0), h)
  else
    (mm_gr 8 3 h t).bind fun r3 =>
    (mm_gi 1 5 h r3).bind fun x4 =>
    (mm_gr 8 6 h t).bind fun r5 =>
    (mm_gi 4 10 h r5).bind fun x6 =>
    if x4 < x6 then
      (mm_gr 8 2 h t).bind fun r7 =>
      (mm_gr 8 3 h t).bind fun r8 =>
      (mm_gi 1 5 h r8).bind fun x9 =>
      (mm_lr h r7 x9).bind fun r10 =>
      mm_ci (f_Lv_rowBits [.ref r10] h) fun x12 h11 =>
      (mm_gr 8 0 h11 t).bind fun r13 =>
      (mm_gi 7 3 h11 r13).bind fun x14 =>
      mm_ci (f_Ji_bitCount [.int (x12 &&& x14)] h11) fun x16 h15 =>
      some (some (.int x16), h15)
    else
      some (some (.int 0), h) := rfl
theorem e_St_leftWhereAt (t : Nat) (h : mm_H) {fs : List Value} (hb : h t = some (.inr (8, fs))) : f_St_leftWhereAt [.ref t] h =
  (mm_gr 8 3 h t).bind fun r1 =>
  (mm_gi 1 3 h r1).bind fun x2 =>
  if x2 = 0 then
    some (some (.int 0), h)
  else
    (mm_gr 8 3 h t).bind fun r3 =>
    (mm_gi 1 5 h r3).bind fun x4 =>
    (mm_gr 8 6 h t).bind fun r5 =>
    (mm_gi 4 10 h r5).bind fun x6 =>
    if x4 < x6 then
      (mm_gr 8 2 h t).bind fun r7 =>
      (mm_gr 8 3 h t).bind fun r8 =>
      (mm_gi 1 5 h r8).bind fun x9 =>
      (mm_lr h r7 x9).bind fun r10 =>
      mm_ci (f_Lv_rowBits [.ref r10] h) fun x12 h11 =>
      (mm_gr 8 0 h11 t).bind fun r13 =>
      (mm_gi 7 3 h11 r13).bind fun x14 =>
      mm_ci (f_Ji_bitCount [.int (x12 &&& x14)] h11) fun x16 h15 =>
      some (some (.int x16), h15)
    else
      some (some (.int 0), h) := (mm_ga_is rfl).trans ((mm_gd_is hb).trans (e_St_leftWhereAt_0 mm_fu t h))
set_option maxRecDepth 100000 in
theorem i_St_leftWhereAt (l : Launch) : mm_Imp l yX8_leftWhereAt cX8_leftWhereAt 2 (some .int) 2 f_St_leftWhereAt := mm_imp l (P := p_St_leftWhereAt) mm_cls_ok mm_sys_ok (by decide) (mm_Pok_of (List.forall_mem_cons.mpr ⟨k_X8_12, (List.forall_mem_cons.mpr ⟨k_X8_27, (List.forall_mem_cons.mpr ⟨k_X8_34, (List.forall_mem_cons.mpr ⟨k_X8_49, (List.forall_mem_cons.mpr ⟨k_X8_134, (List.forall_mem_cons.mpr ⟨k_X8_194, (List.forall_mem_cons.mpr ⟨k_X8_198, (List.forall_mem_cons.mpr ⟨k_X8_207, (fun _ h => absurd h List.not_mem_nil)⟩)⟩)⟩)⟩)⟩)⟩)⟩)⟩) (List.forall_mem_cons.mpr ⟨v_Lv_rowBits l q_966 (by decide), (List.forall_mem_cons.mpr ⟨v_Ji_bitCount l (Or.inl q_1298) (by decide), (fun _ h => absurd h List.not_mem_nil)⟩)⟩) (fun _ h => absurd h List.not_mem_nil) (fun _ h => absurd h List.not_mem_nil)) (by decide +kernel) rfl (cats := [1]) (fun as h r e => ⟨(mm_ga_inv e).1, (mm_gd_inv (mm_ga_inv e).2).1⟩) rfl (by decide)
theorem v_St_leftWhereAt (l : Launch) {own : String} {i n0 : Nat} (hl : Cond.methodLink own i yX8_leftWhereAt ∈ mm_tbl) (hn : 3 ≤ n0) : mm_cok l own n0 i (0, 0, 1, f_St_leftWhereAt) := Or.inr (Or.inr ⟨rfl, yX8_leftWhereAt, cX8_leftWhereAt, 2, (some .int), 2, 8, TX8, 9, i_St_leftWhereAt l, hn, by decide, by decide +kernel, rfl, fun _ _ _ e => (mm_gd_inv (mm_ga_inv e).2).2, hl, q_1295, q_1296, q_174, q_1297⟩)
def p_St_singlyCost : mm_P := ([(0, .iconst 0, 1, 0), (1, .istore_n 1, 1, 0), (2, .iload_n 1, 1, 0), (3, .aload_n 0, 1, 0), (4, .getfield 49, 3, 0), (7, .getfield 134, 3, 0), (10, .if_icmp .ge 54, 3, 0), (13, .aload_n 0, 1, 0), (14, .getfield 49, 3, 0), (17, .getfield 144, 3, 0), (20, .iload_n 1, 1, 0), (21, .iaload, 1, 0), (22, .ifCond .ne 36, 3, 0), (25, .aload_n 0, 1, 0), (26, .getfield 49, 3, 0), (29, .getfield 90, 3, 0), (32, .iload_n 1, 1, 0), (33, .iaload, 1, 0), (34, .iconst 3, 1, 3), (35, .if_icmp .eq 23, 3, 0), (38, .aload_n 0, 1, 0), (39, .getfield 27, 3, 0), (42, .iload_n 1, 1, 0), (43, .aaload, 1, 0), (44, .invokevirtual 225, 3, 0), (47, .iconst 1, 1, 1), (48, .iadd, 1, 0), (49, .aload_n 0, 1, 0), (50, .getfield 21, 3, 0), (53, .invokevirtual 228, 3, 0), (56, .imul, 1, 0), (57, .ireturn, 1, 0), (58, .iinc 1 1, 3, 1), (61, .goto (-59), 3, 0), (64, .aload_n 0, 1, 0), (65, .invokevirtual 204, 3, 0), (68, .invokestatic 210, 3, 0), (71, .aload_n 0, 1, 0), (72, .getfield 21, 3, 0), (75, .invokevirtual 228, 3, 0), (78, .imul, 1, 0), (79, .ireturn, 1, 0)], [(21, 8, 1, 4), (27, 8, 2, 4), (49, 8, 6, 2), (90, 4, 0, 4), (134, 4, 10, 0), (144, 4, 1, 4)], [(204, 0, 0, 1, f_St_doomed), (210, 1, 1, 1, f_Ji_bitCount), (225, 0, 0, 1, f_Lv_height), (228, 0, 0, 1, f_Pt_firmOnes)], [], [], [(0, [0]), (2, [0, 1])], [], 2)
def f_St_singlyCost : mm_F := fun args h => mm_ga [1] args (mm_gd 8 args h (mm_run p_St_singlyCost (mm_fu + 1) 0 args [] h))
set_option maxRecDepth 100000 in
theorem e_St_singlyCost_0 (f : Nat) (t : Nat) (h : mm_H) : mm_run p_St_singlyCost (f + 1) 0 [.ref t] [] h =
  mm_run p_St_singlyCost f 2 [.ref t, .int 0] [] h := rfl
theorem e_St_singlyCost (t : Nat) (h : mm_H) {fs : List Value} (hb : h t = some (.inr (8, fs))) : f_St_singlyCost [.ref t] h =
  mm_run p_St_singlyCost mm_fu 2 [.ref t, .int 0] [] h := (mm_ga_is rfl).trans ((mm_gd_is hb).trans (e_St_singlyCost_0 mm_fu t h))
set_option maxRecDepth 100000 in
theorem e_St_singlyCost_2 (f : Nat) (t : Nat) (v1 : Int32) (h : mm_H) : mm_run p_St_singlyCost (f + 1) 2 [.ref t, .int v1] [] h =
  (mm_gr 8 6 h t).bind fun r1 =>
  (mm_gi 4 10 h r1).bind fun x2 =>
  if v1 < x2 then
    (mm_gr 8 6 h t).bind fun r3 =>
    (mm_gr 4 1 h r3).bind fun r4 =>
    (mm_li h r4 v1).bind fun x5 =>
    if x5 = 0 then
      (mm_gr 8 6 h t).bind fun r6 =>
      (mm_gr 4 0 h r6).bind fun r7 =>
      (mm_li h r7 v1).bind fun x8 =>
      if x8 = 3 then
        mm_run p_St_singlyCost f 2 [.ref t, .int (v1 + 1)] [] h
      else
        (mm_gr 8 2 h t).bind fun r9 =>
        (mm_lr h r9 v1).bind fun r10 =>
        mm_ci (f_Lv_height [.ref r10] h) fun x12 h11 =>
        (mm_gr 8 1 h11 t).bind fun r13 =>
        mm_ci (f_Pt_firmOnes [.ref r13] h11) fun x15 h14 =>
        some (some (.int ((x12 + 1) * x15)), h14)
    else
      mm_run p_St_singlyCost f 2 [.ref t, .int (v1 + 1)] [] h
  else
    mm_ci (f_St_doomed [.ref t] h) fun x17 h16 =>
    mm_ci (f_Ji_bitCount [.int x17] h16) fun x19 h18 =>
    (mm_gr 8 1 h18 t).bind fun r20 =>
    mm_ci (f_Pt_firmOnes [.ref r20] h18) fun x22 h21 =>
    some (some (.int (x19 * x22)), h21) := rfl
set_option maxRecDepth 100000 in
theorem i_St_singlyCost (l : Launch) : mm_Imp l yX8_singlyCost cX8_singlyCost 2 (some .int) 6 f_St_singlyCost := mm_imp l (P := p_St_singlyCost) mm_cls_ok mm_sys_ok (by decide) (mm_Pok_of (List.forall_mem_cons.mpr ⟨k_X8_21, (List.forall_mem_cons.mpr ⟨k_X8_27, (List.forall_mem_cons.mpr ⟨k_X8_49, (List.forall_mem_cons.mpr ⟨k_X8_90, (List.forall_mem_cons.mpr ⟨k_X8_134, (List.forall_mem_cons.mpr ⟨k_X8_144, (fun _ h => absurd h List.not_mem_nil)⟩)⟩)⟩)⟩)⟩)⟩) (List.forall_mem_cons.mpr ⟨v_St_doomed l q_1468 (by decide), (List.forall_mem_cons.mpr ⟨v_Ji_bitCount l (Or.inl q_1298) (by decide), (List.forall_mem_cons.mpr ⟨v_Lv_height l q_1080 (by decide), (List.forall_mem_cons.mpr ⟨v_Pt_firmOnes l q_1566 (by decide), (fun _ h => absurd h List.not_mem_nil)⟩)⟩)⟩)⟩) (fun _ h => absurd h List.not_mem_nil) (fun _ h => absurd h List.not_mem_nil)) (by decide +kernel) rfl (cats := [1]) (fun as h r e => ⟨(mm_ga_inv e).1, (mm_gd_inv (mm_ga_inv e).2).1⟩) rfl (by decide)
theorem v_St_singlyCost (l : Launch) {own : String} {i n0 : Nat} (hl : Cond.methodLink own i yX8_singlyCost ∈ mm_tbl) (hn : 7 ≤ n0) : mm_cok l own n0 i (0, 0, 1, f_St_singlyCost) := Or.inr (Or.inr ⟨rfl, yX8_singlyCost, cX8_singlyCost, 2, (some .int), 6, 8, TX8, 9, i_St_singlyCost l, hn, by decide, by decide +kernel, rfl, fun _ _ _ e => (mm_gd_inv (mm_ga_inv e).2).2, hl, q_1563, q_1564, q_174, q_1565⟩)
def p_St_aim : mm_P := ([(0, .iload_n 1, 1, 0), (1, .ifCond .lt 27, 3, 0), (4, .iload_n 1, 1, 0), (5, .iconst 2, 1, 2), (6, .if_icmp .gt 22, 3, 0), (9, .iload_n 2, 1, 0), (10, .invokestatic 263, 3, 0), (13, .ifCond .eq 15, 3, 0), (16, .aload_n 0, 1, 0), (17, .getfield 12, 3, 0), (20, .iconst 0, 1, 0), (21, .iload_n 2, 1, 0), (22, .invokevirtual 219, 3, 0), (25, .ifCond .ne 5, 3, 0), (28, .iconst (-1), 1, (-1)), (29, .ireturn, 1, 0), (30, .aload_n 0, 1, 0), (31, .getfield 21, 3, 0), (34, .iload_n 1, 1, 0), (35, .iload_n 2, 1, 0), (36, .invokevirtual 113, 3, 0), (39, .ireturn, 1, 0)], [(12, 8, 0, 4), (21, 8, 1, 4)], [(113, 0, 2, 1, f_Pt_add), (219, 0, 2, 1, f_Rw_having), (263, 1, 1, 1, f_Ls_isValue)], [], [], [(0, [0, 1, 2])], [], 2)
def f_St_aim : mm_F := fun args h => mm_ga [1, 1, 1] args (mm_gd 8 args h (mm_run p_St_aim (mm_fu + 1) 0 args [] h))
set_option maxRecDepth 100000 in
theorem e_St_aim_0 (f : Nat) (t : Nat) (v1 : Int32) (v2 : Int32) (h : mm_H) : mm_run p_St_aim (f + 1) 0 [.ref t, .int v1, .int v2] [] h =
  if v1 < 0 then
    some (some (.int (-1)), h)
  else
    if (2 : Int32) < v1 then
      some (some (.int (-1)), h)
    else
      mm_ci (f_Ls_isValue [.int v2] h) fun x2 h1 =>
      if x2 = 0 then
        some (some (.int (-1)), h1)
      else
        (mm_gr 8 0 h1 t).bind fun r3 =>
        mm_ci (f_Rw_having [.ref r3, .int 0, .int v2] h1) fun x5 h4 =>
        if x5 = 0 then
          some (some (.int (-1)), h4)
        else
          (mm_gr 8 1 h4 t).bind fun r6 =>
          mm_ci (f_Pt_add [.ref r6, .int v1, .int v2] h4) fun x8 h7 =>
          some (some (.int x8), h7) := rfl
theorem e_St_aim (t : Nat) (v1 : Int32) (v2 : Int32) (h : mm_H) {fs : List Value} (hb : h t = some (.inr (8, fs))) : f_St_aim [.ref t, .int v1, .int v2] h =
  if v1 < 0 then
    some (some (.int (-1)), h)
  else
    if (2 : Int32) < v1 then
      some (some (.int (-1)), h)
    else
      mm_ci (f_Ls_isValue [.int v2] h) fun x2 h1 =>
      if x2 = 0 then
        some (some (.int (-1)), h1)
      else
        (mm_gr 8 0 h1 t).bind fun r3 =>
        mm_ci (f_Rw_having [.ref r3, .int 0, .int v2] h1) fun x5 h4 =>
        if x5 = 0 then
          some (some (.int (-1)), h4)
        else
          (mm_gr 8 1 h4 t).bind fun r6 =>
          mm_ci (f_Pt_add [.ref r6, .int v1, .int v2] h4) fun x8 h7 =>
          some (some (.int x8), h7) := (mm_ga_is rfl).trans ((mm_gd_is hb).trans (e_St_aim_0 mm_fu t v1 v2 h))
set_option maxRecDepth 100000 in
theorem i_St_aim (l : Launch) : mm_Imp l yX8_aim cX8_aim 3 (some .int) 2 f_St_aim := mm_imp l (P := p_St_aim) mm_cls_ok mm_sys_ok (by decide) (mm_Pok_of (List.forall_mem_cons.mpr ⟨k_X8_12, (List.forall_mem_cons.mpr ⟨k_X8_21, (fun _ h => absurd h List.not_mem_nil)⟩)⟩) (List.forall_mem_cons.mpr ⟨v_Pt_add l q_928 (by decide), (List.forall_mem_cons.mpr ⟨v_Rw_having l q_1054 (by decide), (List.forall_mem_cons.mpr ⟨v_Ls_isValue l (Or.inr ⟨"LeafSweep", by simp [mm_nest, yX11_isValue, yX8_aim, RX8, RX11]⟩) (by decide), (fun _ h => absurd h List.not_mem_nil)⟩)⟩)⟩) (fun _ h => absurd h List.not_mem_nil) (fun _ h => absurd h List.not_mem_nil)) (by decide +kernel) rfl (cats := [1, 1, 1]) (fun as h r e => ⟨(mm_ga_inv e).1, (mm_gd_inv (mm_ga_inv e).2).1⟩) rfl (by decide)
theorem v_St_aim (l : Launch) {own : String} {i n0 : Nat} (hl : Cond.methodLink own i yX8_aim ∈ mm_tbl) (hn : 3 ≤ n0) : mm_cok l own n0 i (0, 2, 1, f_St_aim) := Or.inr (Or.inr ⟨rfl, yX8_aim, cX8_aim, 3, (some .int), 2, 8, TX8, 9, i_St_aim l, hn, by decide, by decide +kernel, rfl, fun _ _ _ e => (mm_gd_inv (mm_ga_inv e).2).2, hl, q_1158, q_1159, q_174, q_1160⟩)
def p_Tp_sortFor : mm_P := ([(0, .iload_n 0, 1, 0), (1, .bipush 10, 2, 10), (3, .if_icmp .eq 9, 3, 0), (6, .iload_n 0, 1, 0), (7, .bipush 32, 2, 32), (9, .if_icmp .ne 5, 3, 0), (12, .iconst 5, 1, 5), (13, .ireturn, 1, 0), (14, .iload_n 0, 1, 0), (15, .bipush 97, 2, 97), (17, .if_icmp .lt 11, 3, 0), (20, .iload_n 0, 1, 0), (21, .bipush 122, 2, 122), (23, .if_icmp .gt 5, 3, 0), (26, .iconst 1, 1, 1), (27, .ireturn, 1, 0), (28, .iload_n 0, 1, 0), (29, .bipush 48, 2, 48), (31, .if_icmp .lt 11, 3, 0), (34, .iload_n 0, 1, 0), (35, .bipush 57, 2, 57), (37, .if_icmp .gt 5, 3, 0), (40, .iconst 2, 1, 2), (41, .ireturn, 1, 0), (42, .iload_n 0, 1, 0), (43, .bipush 59, 2, 59), (45, .if_icmp .ne 7, 3, 0), (48, .iconst 3, 1, 3), (49, .goto 4, 3, 0), (52, .iconst 4, 1, 4), (53, .ireturn, 1, 0)], [], [], [], [], [(0, [0])], [], 2)
def f_Tp_sortFor : mm_F := fun args h => mm_ga [1] args (mm_run p_Tp_sortFor (mm_fu + 1) 0 args [] h)
set_option maxRecDepth 100000 in
theorem e_Tp_sortFor_0 (f : Nat) (v0 : Int32) (h : mm_H) : mm_run p_Tp_sortFor (f + 1) 0 [.int v0] [] h =
  if v0 = 10 then
    some (some (.int 5), h)
  else
    if v0 = 32 then
      some (some (.int 5), h)
    else
      if v0 < 97 then
        if v0 < 48 then
          if v0 = 59 then
            some (some (.int 3), h)
          else
            some (some (.int 4), h)
        else
          if (57 : Int32) < v0 then
            if v0 = 59 then
              some (some (.int 3), h)
            else
              some (some (.int 4), h)
          else
            some (some (.int 2), h)
      else
        if (122 : Int32) < v0 then
          if v0 < 48 then
            if v0 = 59 then
              some (some (.int 3), h)
            else
              some (some (.int 4), h)
          else
            if (57 : Int32) < v0 then
              if v0 = 59 then
                some (some (.int 3), h)
              else
                some (some (.int 4), h)
            else
              some (some (.int 2), h)
        else
          some (some (.int 1), h) := rfl
theorem e_Tp_sortFor (v0 : Int32) (h : mm_H) : f_Tp_sortFor [.int v0] h =
  if v0 = 10 then
    some (some (.int 5), h)
  else
    if v0 = 32 then
      some (some (.int 5), h)
    else
      if v0 < 97 then
        if v0 < 48 then
          if v0 = 59 then
            some (some (.int 3), h)
          else
            some (some (.int 4), h)
        else
          if (57 : Int32) < v0 then
            if v0 = 59 then
              some (some (.int 3), h)
            else
              some (some (.int 4), h)
          else
            some (some (.int 2), h)
      else
        if (122 : Int32) < v0 then
          if v0 < 48 then
            if v0 = 59 then
              some (some (.int 3), h)
            else
              some (some (.int 4), h)
          else
            if (57 : Int32) < v0 then
              if v0 = 59 then
                some (some (.int 3), h)
              else
                some (some (.int 4), h)
            else
              some (some (.int 2), h)
        else
          some (some (.int 1), h) := (mm_ga_is rfl).trans (e_Tp_sortFor_0 mm_fu v0 h)
set_option maxRecDepth 100000 in
theorem i_Tp_sortFor (l : Launch) : mm_Imp l yX9_sortFor cX9_sortFor 1 (some .int) 1 f_Tp_sortFor := mm_imp l (P := p_Tp_sortFor) mm_cls_ok mm_sys_ok (by decide) (mm_Pok_of (fun _ h => absurd h List.not_mem_nil) (fun _ h => absurd h List.not_mem_nil) (fun _ h => absurd h List.not_mem_nil) (fun _ h => absurd h List.not_mem_nil)) (by decide +kernel) rfl (cats := [1]) (fun as h r e => ⟨(mm_ga_inv e).1, (mm_ga_inv e).2⟩) rfl (by decide)
theorem v_Tp_sortFor (l : Launch) {own : String} {i n0 : Nat} (hl : Cond.methodLink own i yX9_sortFor ∈ mm_tbl ∨ ∃ host, Cond.methodLinkNest own i yX9_sortFor host ∈ mm_nest) (hn : 2 ≤ n0) : mm_cok l own n0 i (1, 1, 1, f_Tp_sortFor) := Or.inr (Or.inl ⟨rfl, yX9_sortFor, cX9_sortFor, 1, (some .int), 1, i_Tp_sortFor l, hn, by decide, by decide +kernel, hl, q_723, q_164, q_724⟩)
def p_Tp_lay : mm_P := ([(0, .bipush 56, 2, 56), (2, .istore_n 3, 1, 0), (3, .iload_n 3, 1, 0), (4, .ifCond .lt 87, 3, 0), (7, .lload_n 1, 1, 0), (8, .iload_n 3, 1, 0), (9, .lshr, 1, 0), (10, .ldc2_w 55, 3, 0), (13, .land, 1, 0), (14, .l2i, 1, 0), (15, .istore 4, 2, 0), (17, .iload 4, 2, 0), (19, .bipush 10, 2, 10), (21, .if_icmp .eq 17, 3, 0), (24, .iload 4, 2, 0), (26, .bipush 32, 2, 32), (28, .if_icmp .lt 57, 3, 0), (31, .iload 4, 2, 0), (33, .bipush 126, 2, 126), (35, .if_icmp .gt 50, 3, 0), (38, .aload_n 0, 1, 0), (39, .getfield 22, 3, 0), (42, .sipush 1000, 3, 1000), (45, .if_icmp .ge 40, 3, 0), (48, .aload_n 0, 1, 0), (49, .getfield 9, 3, 0), (52, .aload_n 0, 1, 0), (53, .getfield 22, 3, 0), (56, .iload 4, 2, 0), (58, .i2b, 1, 0), (59, .bastore, 1, 0), (60, .aload_n 0, 1, 0), (61, .getfield 15, 3, 0), (64, .aload_n 0, 1, 0), (65, .getfield 22, 3, 0), (68, .iload 4, 2, 0), (70, .invokestatic 57, 3, 0), (73, .i2b, 1, 0), (74, .bastore, 1, 0), (75, .aload_n 0, 1, 0), (76, .dup, 1, 0), (77, .getfield 22, 3, 0), (80, .iconst 1, 1, 1), (81, .iadd, 1, 0), (82, .putfield 22, 3, 0), (85, .iinc 3 (-8), 3, (-8)), (88, .goto (-85), 3, 0), (91, .return_, 1, 0)], [(9, 9, 0, 4), (15, 9, 1, 4), (22, 9, 3, 0)], [(57, 1, 1, 1, f_Tp_sortFor)], [], [(55, 255)], [(0, [0, 1]), (3, [0, 1, 3])], [], 0)
def f_Tp_lay : mm_F := fun args h => mm_ga [1, 2] args (mm_gd 9 args h (mm_run p_Tp_lay (mm_fu + 1) 0 args [] h))
set_option maxRecDepth 100000 in
theorem e_Tp_lay_0 (f : Nat) (t : Nat) (v1 : Int64) (h : mm_H) : mm_run p_Tp_lay (f + 1) 0 [.ref t, .long v1] [] h =
  mm_run p_Tp_lay f 3 [.ref t, .long v1, .int 56] [] h := rfl
theorem e_Tp_lay (t : Nat) (v1 : Int64) (h : mm_H) {fs : List Value} (hb : h t = some (.inr (9, fs))) : f_Tp_lay [.ref t, .long v1] h =
  mm_run p_Tp_lay mm_fu 3 [.ref t, .long v1, .int 56] [] h := (mm_ga_is rfl).trans ((mm_gd_is hb).trans (e_Tp_lay_0 mm_fu t v1 h))
set_option maxRecDepth 100000 in
theorem e_Tp_lay_3 (f : Nat) (t : Nat) (v1 : Int64) (v3 : Int32) (h : mm_H) : mm_run p_Tp_lay (f + 1) 3 [.ref t, .long v1, .int v3] [] h =
  if v3 < 0 then
    some (none, h)
  else
    if ((v1 >>> (v3.toInt64 &&& 63)) &&& (255 : Int64)).toInt32 = 10 then
      (mm_gi 9 3 h t).bind fun x1 =>
      if x1 < 1000 then
        (mm_gr 9 0 h t).bind fun r2 =>
        (mm_gi 9 3 h t).bind fun x3 =>
        (mm_sb h r2 x3 ((v1 >>> (v3.toInt64 &&& 63)) &&& (255 : Int64)).toInt32.toInt8.toInt32).bind fun h4 =>
        (mm_gr 9 1 h4 t).bind fun r5 =>
        (mm_gi 9 3 h4 t).bind fun x6 =>
        mm_ci (f_Tp_sortFor [.int ((v1 >>> (v3.toInt64 &&& 63)) &&& (255 : Int64)).toInt32] h4) fun x8 h7 =>
        (mm_sb h7 r5 x6 x8.toInt8.toInt32).bind fun h9 =>
        (mm_gi 9 3 h9 t).bind fun x10 =>
        (mm_pf 9 3 (.int (x10 + 1)) h9 t).bind fun h11 =>
        mm_run p_Tp_lay f 3 [.ref t, .long v1, .int (v3 + (-8))] [] h11
      else
        mm_run p_Tp_lay f 3 [.ref t, .long v1, .int (v3 + (-8))] [] h
    else
      if ((v1 >>> (v3.toInt64 &&& 63)) &&& (255 : Int64)).toInt32 < 32 then
        mm_run p_Tp_lay f 3 [.ref t, .long v1, .int (v3 + (-8))] [] h
      else
        if (126 : Int32) < ((v1 >>> (v3.toInt64 &&& 63)) &&& (255 : Int64)).toInt32 then
          mm_run p_Tp_lay f 3 [.ref t, .long v1, .int (v3 + (-8))] [] h
        else
          (mm_gi 9 3 h t).bind fun x12 =>
          if x12 < 1000 then
            (mm_gr 9 0 h t).bind fun r13 =>
            (mm_gi 9 3 h t).bind fun x14 =>
            (mm_sb h r13 x14 ((v1 >>> (v3.toInt64 &&& 63)) &&& (255 : Int64)).toInt32.toInt8.toInt32).bind fun h15 =>
            (mm_gr 9 1 h15 t).bind fun r16 =>
            (mm_gi 9 3 h15 t).bind fun x17 =>
            mm_ci (f_Tp_sortFor [.int ((v1 >>> (v3.toInt64 &&& 63)) &&& (255 : Int64)).toInt32] h15) fun x19 h18 =>
            (mm_sb h18 r16 x17 x19.toInt8.toInt32).bind fun h20 =>
            (mm_gi 9 3 h20 t).bind fun x21 =>
            (mm_pf 9 3 (.int (x21 + 1)) h20 t).bind fun h22 =>
            mm_run p_Tp_lay f 3 [.ref t, .long v1, .int (v3 + (-8))] [] h22
          else
            mm_run p_Tp_lay f 3 [.ref t, .long v1, .int (v3 + (-8))] [] h := rfl
set_option maxRecDepth 100000 in
theorem i_Tp_lay (l : Launch) : mm_Imp l yX9_lay cX9_lay 5 none 2 f_Tp_lay := mm_imp l (P := p_Tp_lay) mm_cls_ok mm_sys_ok (by decide) (mm_Pok_of (List.forall_mem_cons.mpr ⟨k_X9_9, (List.forall_mem_cons.mpr ⟨k_X9_15, (List.forall_mem_cons.mpr ⟨k_X9_22, (fun _ h => absurd h List.not_mem_nil)⟩)⟩)⟩) (List.forall_mem_cons.mpr ⟨v_Tp_sortFor l (Or.inl q_722) (by decide), (fun _ h => absurd h List.not_mem_nil)⟩) (fun _ h => absurd h List.not_mem_nil) (List.forall_mem_cons.mpr ⟨q_721, (fun _ h => absurd h List.not_mem_nil)⟩)) (by decide +kernel) rfl (cats := [1, 2]) (fun as h r e => ⟨(mm_ga_inv e).1, (mm_gd_inv (mm_ga_inv e).2).1⟩) rfl (by decide)
theorem v_Tp_lay (l : Launch) {own : String} {i n0 : Nat} (hl : Cond.methodLink own i yX9_lay ∈ mm_tbl) (hn : 3 ≤ n0) : mm_cok l own n0 i (0, 1, 0, f_Tp_lay) := Or.inr (Or.inr ⟨rfl, yX9_lay, cX9_lay, 5, none, 2, 9, TX9, 9, i_Tp_lay l, hn, by decide, by decide +kernel, rfl, fun _ _ _ e => (mm_gd_inv (mm_ga_inv e).2).2, hl, q_718, q_719, q_164, q_720⟩)
def p_Ls_feed : mm_P := ([(0, .aload_n 0, 1, 0), (1, .getfield 12, 3, 0), (4, .lload_n 1, 1, 0), (5, .invokevirtual 87, 3, 0), (8, .aload_n 0, 1, 0), (9, .getfield 12, 3, 0), (12, .lload_n 3, 1, 0), (13, .invokevirtual 87, 3, 0), (16, .aload_n 0, 1, 0), (17, .getfield 12, 3, 0), (20, .lload 5, 2, 0), (22, .invokevirtual 87, 3, 0), (25, .aload_n 0, 1, 0), (26, .getfield 12, 3, 0), (29, .getfield 91, 3, 0), (32, .ireturn, 1, 0)], [(12, 11, 0, 4), (91, 9, 3, 0)], [(87, 0, 1, 0, f_Tp_lay)], [], [], [(0, [0, 1, 3, 5])], [], 2)
def f_Ls_feed : mm_F := fun args h => mm_ga [1, 2, 2, 2] args (mm_gd 11 args h (mm_run p_Ls_feed (mm_fu + 1) 0 args [] h))
set_option maxRecDepth 100000 in
theorem e_Ls_feed_0 (f : Nat) (t : Nat) (v1 : Int64) (v3 : Int64) (v5 : Int64) (h : mm_H) : mm_run p_Ls_feed (f + 1) 0 [.ref t, .long v1, .long v3, .long v5] [] h =
  (mm_gr 11 0 h t).bind fun r1 =>
  mm_cv (f_Tp_lay [.ref r1, .long v1] h) fun h2 =>
  (mm_gr 11 0 h2 t).bind fun r3 =>
  mm_cv (f_Tp_lay [.ref r3, .long v3] h2) fun h4 =>
  (mm_gr 11 0 h4 t).bind fun r5 =>
  mm_cv (f_Tp_lay [.ref r5, .long v5] h4) fun h6 =>
  (mm_gr 11 0 h6 t).bind fun r7 =>
  (mm_gi 9 3 h6 r7).bind fun x8 =>
  some (some (.int x8), h6) := rfl
theorem e_Ls_feed (t : Nat) (v1 : Int64) (v3 : Int64) (v5 : Int64) (h : mm_H) {fs : List Value} (hb : h t = some (.inr (11, fs))) : f_Ls_feed [.ref t, .long v1, .long v3, .long v5] h =
  (mm_gr 11 0 h t).bind fun r1 =>
  mm_cv (f_Tp_lay [.ref r1, .long v1] h) fun h2 =>
  (mm_gr 11 0 h2 t).bind fun r3 =>
  mm_cv (f_Tp_lay [.ref r3, .long v3] h2) fun h4 =>
  (mm_gr 11 0 h4 t).bind fun r5 =>
  mm_cv (f_Tp_lay [.ref r5, .long v5] h4) fun h6 =>
  (mm_gr 11 0 h6 t).bind fun r7 =>
  (mm_gi 9 3 h6 r7).bind fun x8 =>
  some (some (.int x8), h6) := (mm_ga_is rfl).trans ((mm_gd_is hb).trans (e_Ls_feed_0 mm_fu t v1 v3 v5 h))
set_option maxRecDepth 100000 in
theorem i_Ls_feed (l : Launch) : mm_Imp l yX11_feed cX11_feed 7 (some .int) 3 f_Ls_feed := mm_imp l (P := p_Ls_feed) mm_cls_ok mm_sys_ok (by decide) (mm_Pok_of (List.forall_mem_cons.mpr ⟨k_X11_12, (List.forall_mem_cons.mpr ⟨k_X11_91, (fun _ h => absurd h List.not_mem_nil)⟩)⟩) (List.forall_mem_cons.mpr ⟨v_Tp_lay l q_717 (by decide), (fun _ h => absurd h List.not_mem_nil)⟩) (fun _ h => absurd h List.not_mem_nil) (fun _ h => absurd h List.not_mem_nil)) (by decide +kernel) rfl (cats := [1, 2, 2, 2]) (fun as h r e => ⟨(mm_ga_inv e).1, (mm_gd_inv (mm_ga_inv e).2).1⟩) rfl (by decide)
theorem v_Ls_feed (l : Launch) {own : String} {i n0 : Nat} (hl : Cond.methodLink own i yX11_feed ∈ mm_tbl) (hn : 4 ≤ n0) : mm_cok l own n0 i (0, 3, 1, f_Ls_feed) := Or.inr (Or.inr ⟨rfl, yX11_feed, cX11_feed, 7, (some .int), 3, 11, TX11, 16, i_Ls_feed l, hn, by decide, by decide +kernel, rfl, fun _ _ _ e => (mm_gd_inv (mm_ga_inv e).2).2, hl, q_714, q_715, q_163, q_716⟩)
def p_Ls_table : mm_P := ([(0, .aload_n 0, 1, 0), (1, .getfield 21, 3, 0), (4, .aload_n 0, 1, 0), (5, .getfield 61, 3, 0), (8, .invokevirtual 94, 3, 0), (11, .istore_n 1, 1, 0), (12, .aload_n 0, 1, 0), (13, .getfield 12, 3, 0), (16, .iconst 0, 1, 0), (17, .putfield 91, 3, 0), (20, .iload_n 1, 1, 0), (21, .ifCond .eq 5, 3, 0), (24, .iload_n 1, 1, 0), (25, .ireturn, 1, 0), (26, .aload_n 0, 1, 0), (27, .getfield 57, 3, 0), (30, .astore_n 2, 1, 0), (31, .aload_n 0, 1, 0), (32, .aload_n 0, 1, 0), (33, .getfield 61, 3, 0), (36, .putfield 57, 3, 0), (39, .aload_n 0, 1, 0), (40, .aload_n 2, 1, 0), (41, .putfield 61, 3, 0), (44, .aload_n 0, 1, 0), (45, .getfield 77, 3, 0), (48, .aload_n 0, 1, 0), (49, .getfield 57, 3, 0), (52, .invokevirtual 98, 3, 0), (55, .aload_n 0, 1, 0), (56, .getfield 67, 3, 0), (59, .iconst 0, 1, 0), (60, .putfield 101, 3, 0), (63, .aload_n 0, 1, 0), (64, .iconst (-1), 1, (-1)), (65, .putfield 45, 3, 0), (68, .aload_n 0, 1, 0), (69, .iconst 0, 1, 0), (70, .putfield 42, 3, 0), (73, .iconst 0, 1, 0), (74, .ireturn, 1, 0)], [(12, 11, 0, 4), (21, 11, 1, 4), (42, 11, 5, 0), (45, 11, 6, 0), (57, 11, 9, 2), (61, 11, 10, 2), (67, 11, 11, 2), (77, 11, 13, 2), (91, 9, 3, 0), (101, 3, 2, 0)], [(94, 0, 1, 1, f_Rd_readPlan), (98, 0, 1, 0, f_St_startFrom)], [], [], [(0, [0])], [], 2)
def f_Ls_table : mm_F := fun args h => mm_ga [1] args (mm_gd 11 args h (mm_run p_Ls_table (mm_fu + 1) 0 args [] h))
set_option maxRecDepth 100000 in
theorem e_Ls_table_0 (f : Nat) (t : Nat) (h : mm_H) : mm_run p_Ls_table (f + 1) 0 [.ref t] [] h =
  (mm_gr 11 1 h t).bind fun r1 =>
  (mm_gr 11 10 h t).bind fun r2 =>
  mm_ci (f_Rd_readPlan [.ref r1, .ref r2] h) fun x4 h3 =>
  (mm_gr 11 0 h3 t).bind fun r5 =>
  (mm_pf 9 3 (.int 0) h3 r5).bind fun h6 =>
  if x4 = 0 then
    (mm_gr 11 9 h6 t).bind fun r7 =>
    (mm_gr 11 10 h6 t).bind fun r8 =>
    (mm_pf 11 9 (.ref r8) h6 t).bind fun h9 =>
    (mm_pf 11 10 (.ref r7) h9 t).bind fun h10 =>
    (mm_gr 11 13 h10 t).bind fun r11 =>
    (mm_gr 11 9 h10 t).bind fun r12 =>
    mm_cv (f_St_startFrom [.ref r11, .ref r12] h10) fun h13 =>
    (mm_gr 11 11 h13 t).bind fun r14 =>
    (mm_pf 3 2 (.int 0) h13 r14).bind fun h15 =>
    (mm_pf 11 6 (.int (-1)) h15 t).bind fun h16 =>
    (mm_pf 11 5 (.int 0) h16 t).bind fun h17 =>
    some (some (.int 0), h17)
  else
    some (some (.int x4), h6) := rfl
theorem e_Ls_table (t : Nat) (h : mm_H) {fs : List Value} (hb : h t = some (.inr (11, fs))) : f_Ls_table [.ref t] h =
  (mm_gr 11 1 h t).bind fun r1 =>
  (mm_gr 11 10 h t).bind fun r2 =>
  mm_ci (f_Rd_readPlan [.ref r1, .ref r2] h) fun x4 h3 =>
  (mm_gr 11 0 h3 t).bind fun r5 =>
  (mm_pf 9 3 (.int 0) h3 r5).bind fun h6 =>
  if x4 = 0 then
    (mm_gr 11 9 h6 t).bind fun r7 =>
    (mm_gr 11 10 h6 t).bind fun r8 =>
    (mm_pf 11 9 (.ref r8) h6 t).bind fun h9 =>
    (mm_pf 11 10 (.ref r7) h9 t).bind fun h10 =>
    (mm_gr 11 13 h10 t).bind fun r11 =>
    (mm_gr 11 9 h10 t).bind fun r12 =>
    mm_cv (f_St_startFrom [.ref r11, .ref r12] h10) fun h13 =>
    (mm_gr 11 11 h13 t).bind fun r14 =>
    (mm_pf 3 2 (.int 0) h13 r14).bind fun h15 =>
    (mm_pf 11 6 (.int (-1)) h15 t).bind fun h16 =>
    (mm_pf 11 5 (.int 0) h16 t).bind fun h17 =>
    some (some (.int 0), h17)
  else
    some (some (.int x4), h6) := (mm_ga_is rfl).trans ((mm_gd_is hb).trans (e_Ls_table_0 mm_fu t h))
set_option maxRecDepth 100000 in
theorem i_Ls_table (l : Launch) : mm_Imp l yX11_table cX11_table 3 (some .int) 7 f_Ls_table := mm_imp l (P := p_Ls_table) mm_cls_ok mm_sys_ok (by decide) (mm_Pok_of (List.forall_mem_cons.mpr ⟨k_X11_12, (List.forall_mem_cons.mpr ⟨k_X11_21, (List.forall_mem_cons.mpr ⟨k_X11_42, (List.forall_mem_cons.mpr ⟨k_X11_45, (List.forall_mem_cons.mpr ⟨k_X11_57, (List.forall_mem_cons.mpr ⟨k_X11_61, (List.forall_mem_cons.mpr ⟨k_X11_67, (List.forall_mem_cons.mpr ⟨k_X11_77, (List.forall_mem_cons.mpr ⟨k_X11_91, (List.forall_mem_cons.mpr ⟨k_X11_101, (fun _ h => absurd h List.not_mem_nil)⟩)⟩)⟩)⟩)⟩)⟩)⟩)⟩)⟩)⟩) (List.forall_mem_cons.mpr ⟨v_Rd_readPlan l q_729 (by decide), (List.forall_mem_cons.mpr ⟨v_St_startFrom l q_847 (by decide), (fun _ h => absurd h List.not_mem_nil)⟩)⟩) (fun _ h => absurd h List.not_mem_nil) (fun _ h => absurd h List.not_mem_nil)) (by decide +kernel) rfl (cats := [1]) (fun as h r e => ⟨(mm_ga_inv e).1, (mm_gd_inv (mm_ga_inv e).2).1⟩) rfl (by decide)
theorem v_Ls_table (l : Launch) {own : String} {i n0 : Nat} (hl : Cond.methodLink own i yX11_table ∈ mm_tbl) (hn : 8 ≤ n0) : mm_cok l own n0 i (0, 0, 1, f_Ls_table) := Or.inr (Or.inr ⟨rfl, yX11_table, cX11_table, 3, (some .int), 7, 11, TX11, 16, i_Ls_table l, hn, by decide, by decide +kernel, rfl, fun _ _ _ e => (mm_gd_inv (mm_ga_inv e).2).2, hl, q_726, q_727, q_163, q_728⟩)
def p_Ls_work : mm_P := ([(0, .aload_n 0, 1, 0), (1, .getfield 21, 3, 0), (4, .aload_n 0, 1, 0), (5, .getfield 57, 3, 0), (8, .aload_n 0, 1, 0), (9, .getfield 71, 3, 0), (12, .invokevirtual 104, 3, 0), (15, .istore_n 1, 1, 0), (16, .aload_n 0, 1, 0), (17, .getfield 12, 3, 0), (20, .iconst 0, 1, 0), (21, .putfield 91, 3, 0), (24, .iload_n 1, 1, 0), (25, .ifCond .eq 5, 3, 0), (28, .iload_n 1, 1, 0), (29, .ireturn, 1, 0), (30, .aload_n 0, 1, 0), (31, .getfield 67, 3, 0), (34, .astore_n 2, 1, 0), (35, .aload_n 0, 1, 0), (36, .aload_n 0, 1, 0), (37, .getfield 71, 3, 0), (40, .putfield 67, 3, 0), (43, .aload_n 0, 1, 0), (44, .aload_n 2, 1, 0), (45, .putfield 71, 3, 0), (48, .iconst 0, 1, 0), (49, .ireturn, 1, 0)], [(12, 11, 0, 4), (21, 11, 1, 4), (57, 11, 9, 2), (67, 11, 11, 2), (71, 11, 12, 2), (91, 9, 3, 0)], [(104, 0, 2, 1, f_Rd_readLines)], [], [], [(0, [0])], [], 2)
def f_Ls_work : mm_F := fun args h => mm_ga [1] args (mm_gd 11 args h (mm_run p_Ls_work (mm_fu + 1) 0 args [] h))
set_option maxRecDepth 100000 in
theorem e_Ls_work_0 (f : Nat) (t : Nat) (h : mm_H) : mm_run p_Ls_work (f + 1) 0 [.ref t] [] h =
  (mm_gr 11 1 h t).bind fun r1 =>
  (mm_gr 11 9 h t).bind fun r2 =>
  (mm_gr 11 12 h t).bind fun r3 =>
  mm_ci (f_Rd_readLines [.ref r1, .ref r2, .ref r3] h) fun x5 h4 =>
  (mm_gr 11 0 h4 t).bind fun r6 =>
  (mm_pf 9 3 (.int 0) h4 r6).bind fun h7 =>
  if x5 = 0 then
    (mm_gr 11 11 h7 t).bind fun r8 =>
    (mm_gr 11 12 h7 t).bind fun r9 =>
    (mm_pf 11 11 (.ref r9) h7 t).bind fun h10 =>
    (mm_pf 11 12 (.ref r8) h10 t).bind fun h11 =>
    some (some (.int 0), h11)
  else
    some (some (.int x5), h7) := rfl
theorem e_Ls_work (t : Nat) (h : mm_H) {fs : List Value} (hb : h t = some (.inr (11, fs))) : f_Ls_work [.ref t] h =
  (mm_gr 11 1 h t).bind fun r1 =>
  (mm_gr 11 9 h t).bind fun r2 =>
  (mm_gr 11 12 h t).bind fun r3 =>
  mm_ci (f_Rd_readLines [.ref r1, .ref r2, .ref r3] h) fun x5 h4 =>
  (mm_gr 11 0 h4 t).bind fun r6 =>
  (mm_pf 9 3 (.int 0) h4 r6).bind fun h7 =>
  if x5 = 0 then
    (mm_gr 11 11 h7 t).bind fun r8 =>
    (mm_gr 11 12 h7 t).bind fun r9 =>
    (mm_pf 11 11 (.ref r9) h7 t).bind fun h10 =>
    (mm_pf 11 12 (.ref r8) h10 t).bind fun h11 =>
    some (some (.int 0), h11)
  else
    some (some (.int x5), h7) := (mm_ga_is rfl).trans ((mm_gd_is hb).trans (e_Ls_work_0 mm_fu t h))
set_option maxRecDepth 100000 in
theorem i_Ls_work (l : Launch) : mm_Imp l yX11_work cX11_work 3 (some .int) 7 f_Ls_work := mm_imp l (P := p_Ls_work) mm_cls_ok mm_sys_ok (by decide) (mm_Pok_of (List.forall_mem_cons.mpr ⟨k_X11_12, (List.forall_mem_cons.mpr ⟨k_X11_21, (List.forall_mem_cons.mpr ⟨k_X11_57, (List.forall_mem_cons.mpr ⟨k_X11_67, (List.forall_mem_cons.mpr ⟨k_X11_71, (List.forall_mem_cons.mpr ⟨k_X11_91, (fun _ h => absurd h List.not_mem_nil)⟩)⟩)⟩)⟩)⟩)⟩) (List.forall_mem_cons.mpr ⟨v_Rd_readLines l q_936 (by decide), (fun _ h => absurd h List.not_mem_nil)⟩) (fun _ h => absurd h List.not_mem_nil) (fun _ h => absurd h List.not_mem_nil)) (by decide +kernel) rfl (cats := [1]) (fun as h r e => ⟨(mm_ga_inv e).1, (mm_gd_inv (mm_ga_inv e).2).1⟩) rfl (by decide)
theorem v_Ls_work (l : Launch) {own : String} {i n0 : Nat} (hl : Cond.methodLink own i yX11_work ∈ mm_tbl) (hn : 8 ≤ n0) : mm_cok l own n0 i (0, 0, 1, f_Ls_work) := Or.inr (Or.inr ⟨rfl, yX11_work, cX11_work, 3, (some .int), 7, 11, TX11, 16, i_Ls_work l, hn, by decide, by decide +kernel, rfl, fun _ _ _ e => (mm_gd_inv (mm_ga_inv e).2).2, hl, q_933, q_934, q_163, q_935⟩)
def p_Ls_row : mm_P := ([(0, .aload_n 0, 1, 0), (1, .getfield 77, 3, 0), (4, .getfield 108, 3, 0), (7, .iload_n 1, 1, 0), (8, .invokevirtual 112, 3, 0), (11, .ifCond .ne 5, 3, 0), (14, .iconst (-1), 1, (-1)), (15, .ireturn, 1, 0), (16, .iload_n 2, 1, 0), (17, .tableswitch 91 0 5 #[39, 39, 39, 52, 67, 82], 39, 0), (56, .aload_n 0, 1, 0), (57, .getfield 77, 3, 0), (60, .getfield 108, 3, 0), (63, .iload_n 1, 1, 0), (64, .iload_n 2, 1, 0), (65, .invokevirtual 118, 3, 0), (68, .ireturn, 1, 0), (69, .aload_n 0, 1, 0), (70, .getfield 77, 3, 0), (73, .getfield 108, 3, 0), (76, .getfield 122, 3, 0), (79, .iload_n 1, 1, 0), (80, .ishr, 1, 0), (81, .iconst 1, 1, 1), (82, .iand, 1, 0), (83, .ireturn, 1, 0), (84, .aload_n 0, 1, 0), (85, .getfield 77, 3, 0), (88, .getfield 108, 3, 0), (91, .getfield 125, 3, 0), (94, .iload_n 1, 1, 0), (95, .ishr, 1, 0), (96, .iconst 1, 1, 1), (97, .iand, 1, 0), (98, .ireturn, 1, 0), (99, .aload_n 0, 1, 0), (100, .getfield 77, 3, 0), (103, .iload_n 1, 1, 0), (104, .invokevirtual 128, 3, 0), (107, .ireturn, 1, 0), (108, .iconst (-1), 1, (-1)), (109, .ireturn, 1, 0)], [(77, 11, 13, 2), (108, 8, 0, 4), (122, 7, 2, 0), (125, 7, 3, 0)], [(112, 0, 1, 1, f_Rw_hasCome), (118, 0, 2, 1, f_Rw_valueOf), (128, 0, 1, 1, f_St_treesHolding)], [], [], [(0, [0, 1, 2])], [(17, [(0, 56), (1, 56), (2, 56), (3, 69), (4, 84), (5, 99)], 108)], 2)
def f_Ls_row : mm_F := fun args h => mm_ga [1, 1, 1] args (mm_gd 11 args h (mm_run p_Ls_row (mm_fu + 1) 0 args [] h))
set_option maxRecDepth 100000 in
theorem e_Ls_row_0 (f : Nat) (t : Nat) (v1 : Int32) (v2 : Int32) (h : mm_H) : mm_run p_Ls_row (f + 1) 0 [.ref t, .int v1, .int v2] [] h =
  (mm_gr 11 13 h t).bind fun r1 =>
  (mm_gr 8 0 h r1).bind fun r2 =>
  mm_ci (f_Rw_hasCome [.ref r2, .int v1] h) fun x4 h3 =>
  if x4 = 0 then
    some (some (.int (-1)), h3)
  else
    if v2 = 0 then
      (mm_gr 11 13 h3 t).bind fun r5 =>
      (mm_gr 8 0 h3 r5).bind fun r6 =>
      mm_ci (f_Rw_valueOf [.ref r6, .int v1, .int v2] h3) fun x8 h7 =>
      some (some (.int x8), h7)
    else if v2 = 1 then
      (mm_gr 11 13 h3 t).bind fun r9 =>
      (mm_gr 8 0 h3 r9).bind fun r10 =>
      mm_ci (f_Rw_valueOf [.ref r10, .int v1, .int v2] h3) fun x12 h11 =>
      some (some (.int x12), h11)
    else if v2 = 2 then
      (mm_gr 11 13 h3 t).bind fun r13 =>
      (mm_gr 8 0 h3 r13).bind fun r14 =>
      mm_ci (f_Rw_valueOf [.ref r14, .int v1, .int v2] h3) fun x16 h15 =>
      some (some (.int x16), h15)
    else if v2 = 3 then
      (mm_gr 11 13 h3 t).bind fun r17 =>
      (mm_gr 8 0 h3 r17).bind fun r18 =>
      (mm_gi 7 2 h3 r18).bind fun x19 =>
      some (some (.int ((x19 >>> (v1 &&& 31)) &&& 1)), h3)
    else if v2 = 4 then
      (mm_gr 11 13 h3 t).bind fun r20 =>
      (mm_gr 8 0 h3 r20).bind fun r21 =>
      (mm_gi 7 3 h3 r21).bind fun x22 =>
      some (some (.int ((x22 >>> (v1 &&& 31)) &&& 1)), h3)
    else if v2 = 5 then
      (mm_gr 11 13 h3 t).bind fun r23 =>
      mm_ci (f_St_treesHolding [.ref r23, .int v1] h3) fun x25 h24 =>
      some (some (.int x25), h24)
    else 
      some (some (.int (-1)), h3) := rfl
theorem e_Ls_row (t : Nat) (v1 : Int32) (v2 : Int32) (h : mm_H) {fs : List Value} (hb : h t = some (.inr (11, fs))) : f_Ls_row [.ref t, .int v1, .int v2] h =
  (mm_gr 11 13 h t).bind fun r1 =>
  (mm_gr 8 0 h r1).bind fun r2 =>
  mm_ci (f_Rw_hasCome [.ref r2, .int v1] h) fun x4 h3 =>
  if x4 = 0 then
    some (some (.int (-1)), h3)
  else
    if v2 = 0 then
      (mm_gr 11 13 h3 t).bind fun r5 =>
      (mm_gr 8 0 h3 r5).bind fun r6 =>
      mm_ci (f_Rw_valueOf [.ref r6, .int v1, .int v2] h3) fun x8 h7 =>
      some (some (.int x8), h7)
    else if v2 = 1 then
      (mm_gr 11 13 h3 t).bind fun r9 =>
      (mm_gr 8 0 h3 r9).bind fun r10 =>
      mm_ci (f_Rw_valueOf [.ref r10, .int v1, .int v2] h3) fun x12 h11 =>
      some (some (.int x12), h11)
    else if v2 = 2 then
      (mm_gr 11 13 h3 t).bind fun r13 =>
      (mm_gr 8 0 h3 r13).bind fun r14 =>
      mm_ci (f_Rw_valueOf [.ref r14, .int v1, .int v2] h3) fun x16 h15 =>
      some (some (.int x16), h15)
    else if v2 = 3 then
      (mm_gr 11 13 h3 t).bind fun r17 =>
      (mm_gr 8 0 h3 r17).bind fun r18 =>
      (mm_gi 7 2 h3 r18).bind fun x19 =>
      some (some (.int ((x19 >>> (v1 &&& 31)) &&& 1)), h3)
    else if v2 = 4 then
      (mm_gr 11 13 h3 t).bind fun r20 =>
      (mm_gr 8 0 h3 r20).bind fun r21 =>
      (mm_gi 7 3 h3 r21).bind fun x22 =>
      some (some (.int ((x22 >>> (v1 &&& 31)) &&& 1)), h3)
    else if v2 = 5 then
      (mm_gr 11 13 h3 t).bind fun r23 =>
      mm_ci (f_St_treesHolding [.ref r23, .int v1] h3) fun x25 h24 =>
      some (some (.int x25), h24)
    else 
      some (some (.int (-1)), h3) := (mm_ga_is rfl).trans ((mm_gd_is hb).trans (e_Ls_row_0 mm_fu t v1 v2 h))
set_option maxRecDepth 100000 in
theorem i_Ls_row (l : Launch) : mm_Imp l yX11_row cX11_row 3 (some .int) 3 f_Ls_row := mm_imp l (P := p_Ls_row) mm_cls_ok mm_sys_ok (by decide) (mm_Pok_of (List.forall_mem_cons.mpr ⟨k_X11_77, (List.forall_mem_cons.mpr ⟨k_X11_108, (List.forall_mem_cons.mpr ⟨k_X11_122, (List.forall_mem_cons.mpr ⟨k_X11_125, (fun _ h => absurd h List.not_mem_nil)⟩)⟩)⟩)⟩) (List.forall_mem_cons.mpr ⟨v_Rw_hasCome l q_960 (by decide), (List.forall_mem_cons.mpr ⟨v_Rw_valueOf l q_961 (by decide), (List.forall_mem_cons.mpr ⟨v_St_treesHolding l q_962 (by decide), (fun _ h => absurd h List.not_mem_nil)⟩)⟩)⟩) (fun _ h => absurd h List.not_mem_nil) (fun _ h => absurd h List.not_mem_nil)) (by decide +kernel) rfl (cats := [1, 1, 1]) (fun as h r e => ⟨(mm_ga_inv e).1, (mm_gd_inv (mm_ga_inv e).2).1⟩) rfl (by decide)
theorem v_Ls_row (l : Launch) {own : String} {i n0 : Nat} (hl : Cond.methodLink own i yX11_row ∈ mm_tbl) (hn : 4 ≤ n0) : mm_cok l own n0 i (0, 2, 1, f_Ls_row) := Or.inr (Or.inr ⟨rfl, yX11_row, cX11_row, 3, (some .int), 3, 11, TX11, 16, i_Ls_row l, hn, by decide, by decide +kernel, rfl, fun _ _ _ e => (mm_gd_inv (mm_ga_inv e).2).2, hl, q_957, q_958, q_163, q_959⟩)
def p_Ls_isIndex : mm_P := ([(0, .iload_n 1, 1, 0), (1, .ifCond .lt 18, 3, 0), (4, .iload_n 1, 1, 0), (5, .aload_n 0, 1, 0), (6, .getfield 57, 3, 0), (9, .getfield 311, 3, 0), (12, .if_icmp .ge 7, 3, 0), (15, .iconst 1, 1, 1), (16, .goto 4, 3, 0), (19, .iconst 0, 1, 0), (20, .ireturn, 1, 0)], [(57, 11, 9, 2), (311, 4, 10, 0)], [], [], [], [(0, [0, 1])], [], 1)
def f_Ls_isIndex : mm_F := fun args h => mm_ga [1, 1] args (mm_gd 11 args h (mm_run p_Ls_isIndex (mm_fu + 1) 0 args [] h))
set_option maxRecDepth 100000 in
theorem e_Ls_isIndex_0 (f : Nat) (t : Nat) (v1 : Int32) (h : mm_H) : mm_run p_Ls_isIndex (f + 1) 0 [.ref t, .int v1] [] h =
  if v1 < 0 then
    some (some (.int 0), h)
  else
    (mm_gr 11 9 h t).bind fun r1 =>
    (mm_gi 4 10 h r1).bind fun x2 =>
    if v1 < x2 then
      some (some (.int 1), h)
    else
      some (some (.int 0), h) := rfl
theorem e_Ls_isIndex (t : Nat) (v1 : Int32) (h : mm_H) {fs : List Value} (hb : h t = some (.inr (11, fs))) : f_Ls_isIndex [.ref t, .int v1] h =
  if v1 < 0 then
    some (some (.int 0), h)
  else
    (mm_gr 11 9 h t).bind fun r1 =>
    (mm_gi 4 10 h r1).bind fun x2 =>
    if v1 < x2 then
      some (some (.int 1), h)
    else
      some (some (.int 0), h) := (mm_ga_is rfl).trans ((mm_gd_is hb).trans (e_Ls_isIndex_0 mm_fu t v1 h))
set_option maxRecDepth 100000 in
theorem i_Ls_isIndex (l : Launch) : mm_Imp l yX11_isIndex cX11_isIndex 2 (some .boolean) 1 f_Ls_isIndex := mm_imp l (P := p_Ls_isIndex) mm_cls_ok mm_sys_ok (by decide) (mm_Pok_of (List.forall_mem_cons.mpr ⟨k_X11_57, (List.forall_mem_cons.mpr ⟨k_X11_311, (fun _ h => absurd h List.not_mem_nil)⟩)⟩) (fun _ h => absurd h List.not_mem_nil) (fun _ h => absurd h List.not_mem_nil) (fun _ h => absurd h List.not_mem_nil)) (by decide +kernel) rfl (cats := [1, 1]) (fun as h r e => ⟨(mm_ga_inv e).1, (mm_gd_inv (mm_ga_inv e).2).1⟩) rfl (by decide)
theorem v_Ls_isIndex (l : Launch) {own : String} {i n0 : Nat} (hl : Cond.methodLink own i yX11_isIndex ∈ mm_tbl) (hn : 2 ≤ n0) : mm_cok l own n0 i (0, 1, 1, f_Ls_isIndex) := Or.inr (Or.inr ⟨rfl, yX11_isIndex, cX11_isIndex, 2, (some .boolean), 1, 11, TX11, 16, i_Ls_isIndex l, hn, by decide, by decide +kernel, rfl, fun _ _ _ e => (mm_gd_inv (mm_ga_inv e).2).2, hl, q_976, q_27, q_163, q_977⟩)
def p_Ls_index : mm_P := ([(0, .aload_n 0, 1, 0), (1, .iload_n 1, 1, 0), (2, .invokevirtual 132, 3, 0), (5, .ifCond .ne 5, 3, 0), (8, .iconst (-1), 1, (-1)), (9, .ireturn, 1, 0), (10, .aload_n 0, 1, 0), (11, .getfield 77, 3, 0), (14, .getfield 135, 3, 0), (17, .iload_n 1, 1, 0), (18, .aaload, 1, 0), (19, .astore_n 3, 1, 0), (20, .iload_n 2, 1, 0), (21, .tableswitch 70 0 4 #[35, 45, 55, 60, 65], 35, 0), (56, .aload_n 0, 1, 0), (57, .getfield 57, 3, 0), (60, .getfield 139, 3, 0), (63, .iload_n 1, 1, 0), (64, .iaload, 1, 0), (65, .ireturn, 1, 0), (66, .aload_n 0, 1, 0), (67, .getfield 57, 3, 0), (70, .getfield 143, 3, 0), (73, .iload_n 1, 1, 0), (74, .iaload, 1, 0), (75, .ireturn, 1, 0), (76, .aload_n 3, 1, 0), (77, .getfield 146, 3, 0), (80, .ireturn, 1, 0), (81, .aload_n 3, 1, 0), (82, .getfield 151, 3, 0), (85, .ireturn, 1, 0), (86, .aload_n 3, 1, 0), (87, .invokevirtual 154, 3, 0), (90, .ireturn, 1, 0), (91, .iconst (-1), 1, (-1)), (92, .ireturn, 1, 0)], [(57, 11, 9, 2), (77, 11, 13, 2), (135, 8, 2, 4), (139, 4, 0, 4), (143, 4, 1, 4), (146, 2, 2, 0), (151, 2, 3, 0)], [(132, 0, 1, 1, f_Ls_isIndex), (154, 0, 0, 1, f_Lv_height)], [], [], [(0, [0, 1, 2])], [(21, [(0, 56), (1, 66), (2, 76), (3, 81), (4, 86)], 91)], 2)
def f_Ls_index : mm_F := fun args h => mm_ga [1, 1, 1] args (mm_gd 11 args h (mm_run p_Ls_index (mm_fu + 1) 0 args [] h))
set_option maxRecDepth 100000 in
theorem e_Ls_index_0 (f : Nat) (t : Nat) (v1 : Int32) (v2 : Int32) (h : mm_H) : mm_run p_Ls_index (f + 1) 0 [.ref t, .int v1, .int v2] [] h =
  mm_ci (f_Ls_isIndex [.ref t, .int v1] h) fun x2 h1 =>
  if x2 = 0 then
    some (some (.int (-1)), h1)
  else
    (mm_gr 11 13 h1 t).bind fun r3 =>
    (mm_gr 8 2 h1 r3).bind fun r4 =>
    (mm_lr h1 r4 v1).bind fun r5 =>
    if v2 = 0 then
      (mm_gr 11 9 h1 t).bind fun r6 =>
      (mm_gr 4 0 h1 r6).bind fun r7 =>
      (mm_li h1 r7 v1).bind fun x8 =>
      some (some (.int x8), h1)
    else if v2 = 1 then
      (mm_gr 11 9 h1 t).bind fun r9 =>
      (mm_gr 4 1 h1 r9).bind fun r10 =>
      (mm_li h1 r10 v1).bind fun x11 =>
      some (some (.int x11), h1)
    else if v2 = 2 then
      (mm_gi 2 2 h1 r5).bind fun x12 =>
      some (some (.int x12), h1)
    else if v2 = 3 then
      (mm_gi 2 3 h1 r5).bind fun x13 =>
      some (some (.int x13), h1)
    else if v2 = 4 then
      mm_ci (f_Lv_height [.ref r5] h1) fun x15 h14 =>
      some (some (.int x15), h14)
    else 
      some (some (.int (-1)), h1) := rfl
theorem e_Ls_index (t : Nat) (v1 : Int32) (v2 : Int32) (h : mm_H) {fs : List Value} (hb : h t = some (.inr (11, fs))) : f_Ls_index [.ref t, .int v1, .int v2] h =
  mm_ci (f_Ls_isIndex [.ref t, .int v1] h) fun x2 h1 =>
  if x2 = 0 then
    some (some (.int (-1)), h1)
  else
    (mm_gr 11 13 h1 t).bind fun r3 =>
    (mm_gr 8 2 h1 r3).bind fun r4 =>
    (mm_lr h1 r4 v1).bind fun r5 =>
    if v2 = 0 then
      (mm_gr 11 9 h1 t).bind fun r6 =>
      (mm_gr 4 0 h1 r6).bind fun r7 =>
      (mm_li h1 r7 v1).bind fun x8 =>
      some (some (.int x8), h1)
    else if v2 = 1 then
      (mm_gr 11 9 h1 t).bind fun r9 =>
      (mm_gr 4 1 h1 r9).bind fun r10 =>
      (mm_li h1 r10 v1).bind fun x11 =>
      some (some (.int x11), h1)
    else if v2 = 2 then
      (mm_gi 2 2 h1 r5).bind fun x12 =>
      some (some (.int x12), h1)
    else if v2 = 3 then
      (mm_gi 2 3 h1 r5).bind fun x13 =>
      some (some (.int x13), h1)
    else if v2 = 4 then
      mm_ci (f_Lv_height [.ref r5] h1) fun x15 h14 =>
      some (some (.int x15), h14)
    else 
      some (some (.int (-1)), h1) := (mm_ga_is rfl).trans ((mm_gd_is hb).trans (e_Ls_index_0 mm_fu t v1 v2 h))
set_option maxRecDepth 100000 in
theorem i_Ls_index (l : Launch) : mm_Imp l yX11_index cX11_index 4 (some .int) 2 f_Ls_index := mm_imp l (P := p_Ls_index) mm_cls_ok mm_sys_ok (by decide) (mm_Pok_of (List.forall_mem_cons.mpr ⟨k_X11_57, (List.forall_mem_cons.mpr ⟨k_X11_77, (List.forall_mem_cons.mpr ⟨k_X11_135, (List.forall_mem_cons.mpr ⟨k_X11_139, (List.forall_mem_cons.mpr ⟨k_X11_143, (List.forall_mem_cons.mpr ⟨k_X11_146, (List.forall_mem_cons.mpr ⟨k_X11_151, (fun _ h => absurd h List.not_mem_nil)⟩)⟩)⟩)⟩)⟩)⟩)⟩) (List.forall_mem_cons.mpr ⟨v_Ls_isIndex l q_974 (by decide), (List.forall_mem_cons.mpr ⟨v_Lv_height l q_978 (by decide), (fun _ h => absurd h List.not_mem_nil)⟩)⟩) (fun _ h => absurd h List.not_mem_nil) (fun _ h => absurd h List.not_mem_nil)) (by decide +kernel) rfl (cats := [1, 1, 1]) (fun as h r e => ⟨(mm_ga_inv e).1, (mm_gd_inv (mm_ga_inv e).2).1⟩) rfl (by decide)
theorem v_Ls_index (l : Launch) {own : String} {i n0 : Nat} (hl : Cond.methodLink own i yX11_index ∈ mm_tbl) (hn : 3 ≤ n0) : mm_cok l own n0 i (0, 2, 1, f_Ls_index) := Or.inr (Or.inr ⟨rfl, yX11_index, cX11_index, 4, (some .int), 2, 11, TX11, 16, i_Ls_index l, hn, by decide, by decide +kernel, rfl, fun _ _ _ e => (mm_gd_inv (mm_ga_inv e).2).2, hl, q_971, q_972, q_163, q_973⟩)
def p_Ls_leaf : mm_P := ([(0, .aload_n 0, 1, 0), (1, .iload_n 1, 1, 0), (2, .invokevirtual 132, 3, 0), (5, .ifCond .eq 20, 3, 0), (8, .aload_n 0, 1, 0), (9, .getfield 77, 3, 0), (12, .getfield 135, 3, 0), (15, .iload_n 1, 1, 0), (16, .aaload, 1, 0), (17, .iload_n 2, 1, 0), (18, .iload_n 3, 1, 0), (19, .invokevirtual 158, 3, 0), (22, .goto 4, 3, 0), (25, .iconst (-1), 1, (-1)), (26, .ireturn, 1, 0)], [(77, 11, 13, 2), (135, 8, 2, 4)], [(132, 0, 1, 1, f_Ls_isIndex), (158, 0, 2, 1, f_Lv_rowAt)], [], [], [(0, [0, 1, 2, 3])], [], 2)
def f_Ls_leaf : mm_F := fun args h => mm_ga [1, 1, 1, 1] args (mm_gd 11 args h (mm_run p_Ls_leaf (mm_fu + 1) 0 args [] h))
set_option maxRecDepth 100000 in
theorem e_Ls_leaf_0 (f : Nat) (t : Nat) (v1 : Int32) (v2 : Int32) (v3 : Int32) (h : mm_H) : mm_run p_Ls_leaf (f + 1) 0 [.ref t, .int v1, .int v2, .int v3] [] h =
  mm_ci (f_Ls_isIndex [.ref t, .int v1] h) fun x2 h1 =>
  if x2 = 0 then
    some (some (.int (-1)), h1)
  else
    (mm_gr 11 13 h1 t).bind fun r3 =>
    (mm_gr 8 2 h1 r3).bind fun r4 =>
    (mm_lr h1 r4 v1).bind fun r5 =>
    mm_ci (f_Lv_rowAt [.ref r5, .int v2, .int v3] h1) fun x7 h6 =>
    some (some (.int x7), h6) := rfl
theorem e_Ls_leaf (t : Nat) (v1 : Int32) (v2 : Int32) (v3 : Int32) (h : mm_H) {fs : List Value} (hb : h t = some (.inr (11, fs))) : f_Ls_leaf [.ref t, .int v1, .int v2, .int v3] h =
  mm_ci (f_Ls_isIndex [.ref t, .int v1] h) fun x2 h1 =>
  if x2 = 0 then
    some (some (.int (-1)), h1)
  else
    (mm_gr 11 13 h1 t).bind fun r3 =>
    (mm_gr 8 2 h1 r3).bind fun r4 =>
    (mm_lr h1 r4 v1).bind fun r5 =>
    mm_ci (f_Lv_rowAt [.ref r5, .int v2, .int v3] h1) fun x7 h6 =>
    some (some (.int x7), h6) := (mm_ga_is rfl).trans ((mm_gd_is hb).trans (e_Ls_leaf_0 mm_fu t v1 v2 v3 h))
set_option maxRecDepth 100000 in
theorem i_Ls_leaf (l : Launch) : mm_Imp l yX11_leaf cX11_leaf 4 (some .int) 3 f_Ls_leaf := mm_imp l (P := p_Ls_leaf) mm_cls_ok mm_sys_ok (by decide) (mm_Pok_of (List.forall_mem_cons.mpr ⟨k_X11_77, (List.forall_mem_cons.mpr ⟨k_X11_135, (fun _ h => absurd h List.not_mem_nil)⟩)⟩) (List.forall_mem_cons.mpr ⟨v_Ls_isIndex l q_974 (by decide), (List.forall_mem_cons.mpr ⟨v_Lv_rowAt l q_986 (by decide), (fun _ h => absurd h List.not_mem_nil)⟩)⟩) (fun _ h => absurd h List.not_mem_nil) (fun _ h => absurd h List.not_mem_nil)) (by decide +kernel) rfl (cats := [1, 1, 1, 1]) (fun as h r e => ⟨(mm_ga_inv e).1, (mm_gd_inv (mm_ga_inv e).2).1⟩) rfl (by decide)
theorem v_Ls_leaf (l : Launch) {own : String} {i n0 : Nat} (hl : Cond.methodLink own i yX11_leaf ∈ mm_tbl) (hn : 4 ≤ n0) : mm_cok l own n0 i (0, 3, 1, f_Ls_leaf) := Or.inr (Or.inr ⟨rfl, yX11_leaf, cX11_leaf, 4, (some .int), 3, 11, TX11, 16, i_Ls_leaf l, hn, by decide, by decide +kernel, rfl, fun _ _ _ e => (mm_gd_inv (mm_ga_inv e).2).2, hl, q_983, q_984, q_163, q_985⟩)
def p_Ls_pointer : mm_P := ([(0, .aload_n 0, 1, 0), (1, .getfield 77, 3, 0), (4, .getfield 161, 3, 0), (7, .iload_n 1, 1, 0), (8, .invokevirtual 165, 3, 0), (11, .ifCond .ne 6, 3, 0), (14, .bipush (-3), 2, (-3)), (16, .ireturn, 1, 0), (17, .iload_n 2, 1, 0), (18, .lookupswitch 52 #[(0, 26), (1, 39)], 26, 0), (44, .aload_n 0, 1, 0), (45, .getfield 77, 3, 0), (48, .getfield 161, 3, 0), (51, .getfield 168, 3, 0), (54, .iload_n 1, 1, 0), (55, .iaload, 1, 0), (56, .ireturn, 1, 0), (57, .aload_n 0, 1, 0), (58, .getfield 77, 3, 0), (61, .getfield 161, 3, 0), (64, .getfield 171, 3, 0), (67, .iload_n 1, 1, 0), (68, .iaload, 1, 0), (69, .ireturn, 1, 0), (70, .bipush (-3), 2, (-3)), (72, .ireturn, 1, 0)], [(77, 11, 13, 2), (161, 8, 1, 4), (168, 5, 0, 4), (171, 5, 1, 4)], [(165, 0, 1, 1, f_Pt_hasCome)], [], [], [(0, [0, 1, 2])], [(18, [(0, 44), (1, 57)], 70)], 2)
def f_Ls_pointer : mm_F := fun args h => mm_ga [1, 1, 1] args (mm_gd 11 args h (mm_run p_Ls_pointer (mm_fu + 1) 0 args [] h))
set_option maxRecDepth 100000 in
theorem e_Ls_pointer_0 (f : Nat) (t : Nat) (v1 : Int32) (v2 : Int32) (h : mm_H) : mm_run p_Ls_pointer (f + 1) 0 [.ref t, .int v1, .int v2] [] h =
  (mm_gr 11 13 h t).bind fun r1 =>
  (mm_gr 8 1 h r1).bind fun r2 =>
  mm_ci (f_Pt_hasCome [.ref r2, .int v1] h) fun x4 h3 =>
  if x4 = 0 then
    some (some (.int (-3)), h3)
  else
    if v2 = 0 then
      (mm_gr 11 13 h3 t).bind fun r5 =>
      (mm_gr 8 1 h3 r5).bind fun r6 =>
      (mm_gr 5 0 h3 r6).bind fun r7 =>
      (mm_li h3 r7 v1).bind fun x8 =>
      some (some (.int x8), h3)
    else if v2 = 1 then
      (mm_gr 11 13 h3 t).bind fun r9 =>
      (mm_gr 8 1 h3 r9).bind fun r10 =>
      (mm_gr 5 1 h3 r10).bind fun r11 =>
      (mm_li h3 r11 v1).bind fun x12 =>
      some (some (.int x12), h3)
    else 
      some (some (.int (-3)), h3) := rfl
theorem e_Ls_pointer (t : Nat) (v1 : Int32) (v2 : Int32) (h : mm_H) {fs : List Value} (hb : h t = some (.inr (11, fs))) : f_Ls_pointer [.ref t, .int v1, .int v2] h =
  (mm_gr 11 13 h t).bind fun r1 =>
  (mm_gr 8 1 h r1).bind fun r2 =>
  mm_ci (f_Pt_hasCome [.ref r2, .int v1] h) fun x4 h3 =>
  if x4 = 0 then
    some (some (.int (-3)), h3)
  else
    if v2 = 0 then
      (mm_gr 11 13 h3 t).bind fun r5 =>
      (mm_gr 8 1 h3 r5).bind fun r6 =>
      (mm_gr 5 0 h3 r6).bind fun r7 =>
      (mm_li h3 r7 v1).bind fun x8 =>
      some (some (.int x8), h3)
    else if v2 = 1 then
      (mm_gr 11 13 h3 t).bind fun r9 =>
      (mm_gr 8 1 h3 r9).bind fun r10 =>
      (mm_gr 5 1 h3 r10).bind fun r11 =>
      (mm_li h3 r11 v1).bind fun x12 =>
      some (some (.int x12), h3)
    else 
      some (some (.int (-3)), h3) := (mm_ga_is rfl).trans ((mm_gd_is hb).trans (e_Ls_pointer_0 mm_fu t v1 v2 h))
set_option maxRecDepth 100000 in
theorem i_Ls_pointer (l : Launch) : mm_Imp l yX11_pointer cX11_pointer 3 (some .int) 2 f_Ls_pointer := mm_imp l (P := p_Ls_pointer) mm_cls_ok mm_sys_ok (by decide) (mm_Pok_of (List.forall_mem_cons.mpr ⟨k_X11_77, (List.forall_mem_cons.mpr ⟨k_X11_161, (List.forall_mem_cons.mpr ⟨k_X11_168, (List.forall_mem_cons.mpr ⟨k_X11_171, (fun _ h => absurd h List.not_mem_nil)⟩)⟩)⟩)⟩) (List.forall_mem_cons.mpr ⟨v_Pt_hasCome l q_1001 (by decide), (fun _ h => absurd h List.not_mem_nil)⟩) (fun _ h => absurd h List.not_mem_nil) (fun _ h => absurd h List.not_mem_nil)) (by decide +kernel) rfl (cats := [1, 1, 1]) (fun as h r e => ⟨(mm_ga_inv e).1, (mm_gd_inv (mm_ga_inv e).2).1⟩) rfl (by decide)
theorem v_Ls_pointer (l : Launch) {own : String} {i n0 : Nat} (hl : Cond.methodLink own i yX11_pointer ∈ mm_tbl) (hn : 3 ≤ n0) : mm_cok l own n0 i (0, 2, 1, f_Ls_pointer) := Or.inr (Or.inr ⟨rfl, yX11_pointer, cX11_pointer, 3, (some .int), 2, 11, TX11, 16, i_Ls_pointer l, hn, by decide, by decide +kernel, rfl, fun _ _ _ e => (mm_gd_inv (mm_ga_inv e).2).2, hl, q_998, q_999, q_163, q_1000⟩)
def p_Ls_remember : mm_P := ([(0, .aload_n 0, 1, 0), (1, .getfield 38, 3, 0), (4, .aload_n 0, 1, 0), (5, .getfield 42, 3, 0), (8, .iadd, 1, 0), (9, .bipush 16, 2, 16), (11, .irem, 1, 0), (12, .istore_n 1, 1, 0), (13, .aload_n 0, 1, 0), (14, .getfield 42, 3, 0), (17, .bipush 16, 2, 16), (19, .if_icmp .ge 16, 3, 0), (22, .aload_n 0, 1, 0), (23, .dup, 1, 0), (24, .getfield 42, 3, 0), (27, .iconst 1, 1, 1), (28, .iadd, 1, 0), (29, .putfield 42, 3, 0), (32, .goto 16, 3, 0), (35, .aload_n 0, 1, 0), (36, .aload_n 0, 1, 0), (37, .getfield 38, 3, 0), (40, .iconst 1, 1, 1), (41, .iadd, 1, 0), (42, .bipush 16, 2, 16), (44, .irem, 1, 0), (45, .putfield 38, 3, 0), (48, .aload_n 0, 1, 0), (49, .getfield 34, 3, 0), (52, .iload_n 1, 1, 0), (53, .aaload, 1, 0), (54, .astore_n 2, 1, 0), (55, .aload_n 0, 1, 0), (56, .getfield 34, 3, 0), (59, .iload_n 1, 1, 0), (60, .aload_n 0, 1, 0), (61, .getfield 81, 3, 0), (64, .aastore, 1, 0), (65, .aload_n 0, 1, 0), (66, .aload_n 2, 1, 0), (67, .putfield 81, 3, 0), (70, .return_, 1, 0)], [(34, 11, 3, 4), (38, 11, 4, 0), (42, 11, 5, 0), (81, 11, 14, 2)], [], [], [], [(0, [0])], [], 0)
def f_Ls_remember : mm_F := fun args h => mm_ga [1] args (mm_gd 11 args h (mm_run p_Ls_remember (mm_fu + 1) 0 args [] h))
set_option maxRecDepth 100000 in
theorem e_Ls_remember_0 (f : Nat) (t : Nat) (h : mm_H) : mm_run p_Ls_remember (f + 1) 0 [.ref t] [] h =
  (mm_gi 11 4 h t).bind fun x1 =>
  (mm_gi 11 5 h t).bind fun x2 =>
  (mm_gi 11 5 h t).bind fun x3 =>
  if x3 < 16 then
    (mm_gi 11 5 h t).bind fun x4 =>
    (mm_pf 11 5 (.int (x4 + 1)) h t).bind fun h5 =>
    (mm_gr 11 3 h5 t).bind fun r6 =>
    (mm_lr h5 r6 (mm_rem (x1 + x2) 16)).bind fun r7 =>
    (mm_gr 11 3 h5 t).bind fun r8 =>
    (mm_gr 11 14 h5 t).bind fun r9 =>
    (mm_sr h5 r8 (mm_rem (x1 + x2) 16) r9).bind fun h10 =>
    (mm_pf 11 14 (.ref r7) h10 t).bind fun h11 =>
    some (none, h11)
  else
    (mm_gi 11 4 h t).bind fun x12 =>
    (mm_pf 11 4 (.int (mm_rem (x12 + 1) 16)) h t).bind fun h13 =>
    (mm_gr 11 3 h13 t).bind fun r14 =>
    (mm_lr h13 r14 (mm_rem (x1 + x2) 16)).bind fun r15 =>
    (mm_gr 11 3 h13 t).bind fun r16 =>
    (mm_gr 11 14 h13 t).bind fun r17 =>
    (mm_sr h13 r16 (mm_rem (x1 + x2) 16) r17).bind fun h18 =>
    (mm_pf 11 14 (.ref r15) h18 t).bind fun h19 =>
    some (none, h19) := rfl
theorem e_Ls_remember (t : Nat) (h : mm_H) {fs : List Value} (hb : h t = some (.inr (11, fs))) : f_Ls_remember [.ref t] h =
  (mm_gi 11 4 h t).bind fun x1 =>
  (mm_gi 11 5 h t).bind fun x2 =>
  (mm_gi 11 5 h t).bind fun x3 =>
  if x3 < 16 then
    (mm_gi 11 5 h t).bind fun x4 =>
    (mm_pf 11 5 (.int (x4 + 1)) h t).bind fun h5 =>
    (mm_gr 11 3 h5 t).bind fun r6 =>
    (mm_lr h5 r6 (mm_rem (x1 + x2) 16)).bind fun r7 =>
    (mm_gr 11 3 h5 t).bind fun r8 =>
    (mm_gr 11 14 h5 t).bind fun r9 =>
    (mm_sr h5 r8 (mm_rem (x1 + x2) 16) r9).bind fun h10 =>
    (mm_pf 11 14 (.ref r7) h10 t).bind fun h11 =>
    some (none, h11)
  else
    (mm_gi 11 4 h t).bind fun x12 =>
    (mm_pf 11 4 (.int (mm_rem (x12 + 1) 16)) h t).bind fun h13 =>
    (mm_gr 11 3 h13 t).bind fun r14 =>
    (mm_lr h13 r14 (mm_rem (x1 + x2) 16)).bind fun r15 =>
    (mm_gr 11 3 h13 t).bind fun r16 =>
    (mm_gr 11 14 h13 t).bind fun r17 =>
    (mm_sr h13 r16 (mm_rem (x1 + x2) 16) r17).bind fun h18 =>
    (mm_pf 11 14 (.ref r15) h18 t).bind fun h19 =>
    some (none, h19) := (mm_ga_is rfl).trans ((mm_gd_is hb).trans (e_Ls_remember_0 mm_fu t h))
set_option maxRecDepth 100000 in
theorem i_Ls_remember (l : Launch) : mm_Imp l yX11_remember cX11_remember 3 none 1 f_Ls_remember := mm_imp l (P := p_Ls_remember) mm_cls_ok mm_sys_ok (by decide) (mm_Pok_of (List.forall_mem_cons.mpr ⟨k_X11_34, (List.forall_mem_cons.mpr ⟨k_X11_38, (List.forall_mem_cons.mpr ⟨k_X11_42, (List.forall_mem_cons.mpr ⟨k_X11_81, (fun _ h => absurd h List.not_mem_nil)⟩)⟩)⟩)⟩) (fun _ h => absurd h List.not_mem_nil) (fun _ h => absurd h List.not_mem_nil) (fun _ h => absurd h List.not_mem_nil)) (by decide +kernel) rfl (cats := [1]) (fun as h r e => ⟨(mm_ga_inv e).1, (mm_gd_inv (mm_ga_inv e).2).1⟩) rfl (by decide)
theorem v_Ls_remember (l : Launch) {own : String} {i n0 : Nat} (hl : Cond.methodLink own i yX11_remember ∈ mm_tbl) (hn : 2 ≤ n0) : mm_cok l own n0 i (0, 0, 0, f_Ls_remember) := Or.inr (Or.inr ⟨rfl, yX11_remember, cX11_remember, 3, none, 1, 11, TX11, 16, i_Ls_remember l, hn, by decide, by decide +kernel, rfl, fun _ _ _ e => (mm_gd_inv (mm_ga_inv e).2).2, hl, q_1095, q_35, q_163, q_1096⟩)
def p_Ls_insert : mm_P := ([(0, .aload_n 0, 1, 0), (1, .getfield 81, 3, 0), (4, .aload_n 0, 1, 0), (5, .getfield 77, 3, 0), (8, .invokevirtual 174, 3, 0), (11, .aload_n 0, 1, 0), (12, .getfield 77, 3, 0), (15, .iload_n 1, 1, 0), (16, .iload_n 2, 1, 0), (17, .iload_n 3, 1, 0), (18, .invokevirtual 178, 3, 0), (21, .istore 4, 2, 0), (23, .iload 4, 2, 0), (25, .iconst (-1), 1, (-1)), (26, .if_icmp .eq 7, 3, 0), (29, .aload_n 0, 1, 0), (30, .invokevirtual 182, 3, 0), (33, .iload 4, 2, 0), (35, .ireturn, 1, 0)], [(77, 11, 13, 2), (81, 11, 14, 2)], [(174, 0, 1, 0, f_St_become), (178, 0, 3, 1, f_St_admit), (182, 0, 0, 0, f_Ls_remember)], [], [], [(0, [0, 1, 2, 3])], [], 2)
def f_Ls_insert : mm_F := fun args h => mm_ga [1, 1, 1, 1] args (mm_gd 11 args h (mm_run p_Ls_insert (mm_fu + 1) 0 args [] h))
set_option maxRecDepth 100000 in
theorem e_Ls_insert_0 (f : Nat) (t : Nat) (v1 : Int32) (v2 : Int32) (v3 : Int32) (h : mm_H) : mm_run p_Ls_insert (f + 1) 0 [.ref t, .int v1, .int v2, .int v3] [] h =
  (mm_gr 11 14 h t).bind fun r1 =>
  (mm_gr 11 13 h t).bind fun r2 =>
  mm_cv (f_St_become [.ref r1, .ref r2] h) fun h3 =>
  (mm_gr 11 13 h3 t).bind fun r4 =>
  mm_ci (f_St_admit [.ref r4, .int v1, .int v2, .int v3] h3) fun x6 h5 =>
  if x6 = (-1) then
    some (some (.int x6), h5)
  else
    mm_cv (f_Ls_remember [.ref t] h5) fun h7 =>
    some (some (.int x6), h7) := rfl
theorem e_Ls_insert (t : Nat) (v1 : Int32) (v2 : Int32) (v3 : Int32) (h : mm_H) {fs : List Value} (hb : h t = some (.inr (11, fs))) : f_Ls_insert [.ref t, .int v1, .int v2, .int v3] h =
  (mm_gr 11 14 h t).bind fun r1 =>
  (mm_gr 11 13 h t).bind fun r2 =>
  mm_cv (f_St_become [.ref r1, .ref r2] h) fun h3 =>
  (mm_gr 11 13 h3 t).bind fun r4 =>
  mm_ci (f_St_admit [.ref r4, .int v1, .int v2, .int v3] h3) fun x6 h5 =>
  if x6 = (-1) then
    some (some (.int x6), h5)
  else
    mm_cv (f_Ls_remember [.ref t] h5) fun h7 =>
    some (some (.int x6), h7) := (mm_ga_is rfl).trans ((mm_gd_is hb).trans (e_Ls_insert_0 mm_fu t v1 v2 v3 h))
set_option maxRecDepth 100000 in
theorem i_Ls_insert (l : Launch) : mm_Imp l yX11_insert cX11_insert 5 (some .int) 6 f_Ls_insert := mm_imp l (P := p_Ls_insert) mm_cls_ok mm_sys_ok (by decide) (mm_Pok_of (List.forall_mem_cons.mpr ⟨k_X11_77, (List.forall_mem_cons.mpr ⟨k_X11_81, (fun _ h => absurd h List.not_mem_nil)⟩)⟩) (List.forall_mem_cons.mpr ⟨v_St_become l q_1009 (by decide), (List.forall_mem_cons.mpr ⟨v_St_admit l q_1036 (by decide), (List.forall_mem_cons.mpr ⟨v_Ls_remember l q_1093 (by decide), (fun _ h => absurd h List.not_mem_nil)⟩)⟩)⟩) (fun _ h => absurd h List.not_mem_nil) (fun _ h => absurd h List.not_mem_nil)) (by decide +kernel) rfl (cats := [1, 1, 1, 1]) (fun as h r e => ⟨(mm_ga_inv e).1, (mm_gd_inv (mm_ga_inv e).2).1⟩) rfl (by decide)
theorem v_Ls_insert (l : Launch) {own : String} {i n0 : Nat} (hl : Cond.methodLink own i yX11_insert ∈ mm_tbl) (hn : 7 ≤ n0) : mm_cok l own n0 i (0, 3, 1, f_Ls_insert) := Or.inr (Or.inr ⟨rfl, yX11_insert, cX11_insert, 5, (some .int), 6, 11, TX11, 16, i_Ls_insert l, hn, by decide, by decide +kernel, rfl, fun _ _ _ e => (mm_gd_inv (mm_ga_inv e).2).2, hl, q_1006, q_1007, q_163, q_1008⟩)
def p_Ls_rememberIf : mm_P := ([(0, .iload_n 1, 1, 0), (1, .ifCond .eq 7, 3, 0), (4, .aload_n 0, 1, 0), (5, .invokevirtual 182, 3, 0), (8, .iload_n 1, 1, 0), (9, .ireturn, 1, 0)], [], [(182, 0, 0, 0, f_Ls_remember)], [], [], [(0, [0, 1])], [], 1)
def f_Ls_rememberIf : mm_F := fun args h => mm_ga [1, 1] args (mm_gd 11 args h (mm_run p_Ls_rememberIf (mm_fu + 1) 0 args [] h))
set_option maxRecDepth 100000 in
theorem e_Ls_rememberIf_0 (f : Nat) (t : Nat) (v1 : Int32) (h : mm_H) : mm_run p_Ls_rememberIf (f + 1) 0 [.ref t, .int v1] [] h =
  if v1 = 0 then
    if v1 = 0 ∨ v1 = 1 then some (some (.int v1), h) else none
  else
    mm_cv (f_Ls_remember [.ref t] h) fun h1 =>
    if v1 = 0 ∨ v1 = 1 then some (some (.int v1), h1) else none := rfl
theorem e_Ls_rememberIf (t : Nat) (v1 : Int32) (h : mm_H) {fs : List Value} (hb : h t = some (.inr (11, fs))) : f_Ls_rememberIf [.ref t, .int v1] h =
  if v1 = 0 then
    if v1 = 0 ∨ v1 = 1 then some (some (.int v1), h) else none
  else
    mm_cv (f_Ls_remember [.ref t] h) fun h1 =>
    if v1 = 0 ∨ v1 = 1 then some (some (.int v1), h1) else none := (mm_ga_is rfl).trans ((mm_gd_is hb).trans (e_Ls_rememberIf_0 mm_fu t v1 h))
set_option maxRecDepth 100000 in
theorem i_Ls_rememberIf (l : Launch) : mm_Imp l yX11_rememberIf cX11_rememberIf 2 (some .boolean) 2 f_Ls_rememberIf := mm_imp l (P := p_Ls_rememberIf) mm_cls_ok mm_sys_ok (by decide) (mm_Pok_of (fun _ h => absurd h List.not_mem_nil) (List.forall_mem_cons.mpr ⟨v_Ls_remember l q_1093 (by decide), (fun _ h => absurd h List.not_mem_nil)⟩) (fun _ h => absurd h List.not_mem_nil) (fun _ h => absurd h List.not_mem_nil)) (by decide +kernel) rfl (cats := [1, 1]) (fun as h r e => ⟨(mm_ga_inv e).1, (mm_gd_inv (mm_ga_inv e).2).1⟩) rfl (by decide)
theorem v_Ls_rememberIf (l : Launch) {own : String} {i n0 : Nat} (hl : Cond.methodLink own i yX11_rememberIf ∈ mm_tbl) (hn : 3 ≤ n0) : mm_cok l own n0 i (0, 1, 1, f_Ls_rememberIf) := Or.inr (Or.inr ⟨rfl, yX11_rememberIf, cX11_rememberIf, 2, (some .boolean), 2, 11, TX11, 16, i_Ls_rememberIf l, hn, by decide, by decide +kernel, rfl, fun _ _ _ e => (mm_gd_inv (mm_ga_inv e).2).2, hl, q_1136, q_37, q_163, q_1137⟩)
def p_Ls_remove : mm_P := ([(0, .aload_n 0, 1, 0), (1, .getfield 81, 3, 0), (4, .aload_n 0, 1, 0), (5, .getfield 77, 3, 0), (8, .invokevirtual 174, 3, 0), (11, .aload_n 0, 1, 0), (12, .aload_n 0, 1, 0), (13, .getfield 77, 3, 0), (16, .iload_n 1, 1, 0), (17, .invokevirtual 185, 3, 0), (20, .invokevirtual 188, 3, 0), (23, .ireturn, 1, 0)], [(77, 11, 13, 2), (81, 11, 14, 2)], [(174, 0, 1, 0, f_St_become), (185, 0, 1, 1, f_St_expel), (188, 0, 1, 1, f_Ls_rememberIf)], [], [], [(0, [0, 1])], [], 1)
def f_Ls_remove : mm_F := fun args h => mm_ga [1, 1] args (mm_gd 11 args h (mm_run p_Ls_remove (mm_fu + 1) 0 args [] h))
set_option maxRecDepth 100000 in
theorem e_Ls_remove_0 (f : Nat) (t : Nat) (v1 : Int32) (h : mm_H) : mm_run p_Ls_remove (f + 1) 0 [.ref t, .int v1] [] h =
  (mm_gr 11 14 h t).bind fun r1 =>
  (mm_gr 11 13 h t).bind fun r2 =>
  mm_cv (f_St_become [.ref r1, .ref r2] h) fun h3 =>
  (mm_gr 11 13 h3 t).bind fun r4 =>
  mm_ci (f_St_expel [.ref r4, .int v1] h3) fun x6 h5 =>
  mm_ci (f_Ls_rememberIf [.ref t, .int x6] h5) fun x8 h7 =>
  if x8 = 0 ∨ x8 = 1 then some (some (.int x8), h7) else none := rfl
theorem e_Ls_remove (t : Nat) (v1 : Int32) (h : mm_H) {fs : List Value} (hb : h t = some (.inr (11, fs))) : f_Ls_remove [.ref t, .int v1] h =
  (mm_gr 11 14 h t).bind fun r1 =>
  (mm_gr 11 13 h t).bind fun r2 =>
  mm_cv (f_St_become [.ref r1, .ref r2] h) fun h3 =>
  (mm_gr 11 13 h3 t).bind fun r4 =>
  mm_ci (f_St_expel [.ref r4, .int v1] h3) fun x6 h5 =>
  mm_ci (f_Ls_rememberIf [.ref t, .int x6] h5) fun x8 h7 =>
  if x8 = 0 ∨ x8 = 1 then some (some (.int x8), h7) else none := (mm_ga_is rfl).trans ((mm_gd_is hb).trans (e_Ls_remove_0 mm_fu t v1 h))
set_option maxRecDepth 100000 in
theorem i_Ls_remove (l : Launch) : mm_Imp l yX11_remove cX11_remove 2 (some .boolean) 6 f_Ls_remove := mm_imp l (P := p_Ls_remove) mm_cls_ok mm_sys_ok (by decide) (mm_Pok_of (List.forall_mem_cons.mpr ⟨k_X11_77, (List.forall_mem_cons.mpr ⟨k_X11_81, (fun _ h => absurd h List.not_mem_nil)⟩)⟩) (List.forall_mem_cons.mpr ⟨v_St_become l q_1009 (by decide), (List.forall_mem_cons.mpr ⟨v_St_expel l q_1101 (by decide), (List.forall_mem_cons.mpr ⟨v_Ls_rememberIf l q_1134 (by decide), (fun _ h => absurd h List.not_mem_nil)⟩)⟩)⟩) (fun _ h => absurd h List.not_mem_nil) (fun _ h => absurd h List.not_mem_nil)) (by decide +kernel) rfl (cats := [1, 1]) (fun as h r e => ⟨(mm_ga_inv e).1, (mm_gd_inv (mm_ga_inv e).2).1⟩) rfl (by decide)
theorem v_Ls_remove (l : Launch) {own : String} {i n0 : Nat} (hl : Cond.methodLink own i yX11_remove ∈ mm_tbl) (hn : 7 ≤ n0) : mm_cok l own n0 i (0, 1, 1, f_Ls_remove) := Or.inr (Or.inr ⟨rfl, yX11_remove, cX11_remove, 2, (some .boolean), 6, 11, TX11, 16, i_Ls_remove l, hn, by decide, by decide +kernel, rfl, fun _ _ _ e => (mm_gd_inv (mm_ga_inv e).2).2, hl, q_1098, q_1099, q_163, q_1100⟩)
def p_Ls_change : mm_P := ([(0, .aload_n 0, 1, 0), (1, .getfield 81, 3, 0), (4, .aload_n 0, 1, 0), (5, .getfield 77, 3, 0), (8, .invokevirtual 174, 3, 0), (11, .aload_n 0, 1, 0), (12, .aload_n 0, 1, 0), (13, .getfield 77, 3, 0), (16, .iload_n 1, 1, 0), (17, .iload_n 2, 1, 0), (18, .iload_n 3, 1, 0), (19, .invokevirtual 192, 3, 0), (22, .invokevirtual 188, 3, 0), (25, .ireturn, 1, 0)], [(77, 11, 13, 2), (81, 11, 14, 2)], [(174, 0, 1, 0, f_St_become), (188, 0, 1, 1, f_Ls_rememberIf), (192, 0, 3, 1, f_St_amend)], [], [], [(0, [0, 1, 2, 3])], [], 1)
def f_Ls_change : mm_F := fun args h => mm_ga [1, 1, 1, 1] args (mm_gd 11 args h (mm_run p_Ls_change (mm_fu + 1) 0 args [] h))
set_option maxRecDepth 100000 in
theorem e_Ls_change_0 (f : Nat) (t : Nat) (v1 : Int32) (v2 : Int32) (v3 : Int32) (h : mm_H) : mm_run p_Ls_change (f + 1) 0 [.ref t, .int v1, .int v2, .int v3] [] h =
  (mm_gr 11 14 h t).bind fun r1 =>
  (mm_gr 11 13 h t).bind fun r2 =>
  mm_cv (f_St_become [.ref r1, .ref r2] h) fun h3 =>
  (mm_gr 11 13 h3 t).bind fun r4 =>
  mm_ci (f_St_amend [.ref r4, .int v1, .int v2, .int v3] h3) fun x6 h5 =>
  mm_ci (f_Ls_rememberIf [.ref t, .int x6] h5) fun x8 h7 =>
  if x8 = 0 ∨ x8 = 1 then some (some (.int x8), h7) else none := rfl
theorem e_Ls_change (t : Nat) (v1 : Int32) (v2 : Int32) (v3 : Int32) (h : mm_H) {fs : List Value} (hb : h t = some (.inr (11, fs))) : f_Ls_change [.ref t, .int v1, .int v2, .int v3] h =
  (mm_gr 11 14 h t).bind fun r1 =>
  (mm_gr 11 13 h t).bind fun r2 =>
  mm_cv (f_St_become [.ref r1, .ref r2] h) fun h3 =>
  (mm_gr 11 13 h3 t).bind fun r4 =>
  mm_ci (f_St_amend [.ref r4, .int v1, .int v2, .int v3] h3) fun x6 h5 =>
  mm_ci (f_Ls_rememberIf [.ref t, .int x6] h5) fun x8 h7 =>
  if x8 = 0 ∨ x8 = 1 then some (some (.int x8), h7) else none := (mm_ga_is rfl).trans ((mm_gd_is hb).trans (e_Ls_change_0 mm_fu t v1 v2 v3 h))
set_option maxRecDepth 100000 in
theorem i_Ls_change (l : Launch) : mm_Imp l yX11_change cX11_change 4 (some .boolean) 6 f_Ls_change := mm_imp l (P := p_Ls_change) mm_cls_ok mm_sys_ok (by decide) (mm_Pok_of (List.forall_mem_cons.mpr ⟨k_X11_77, (List.forall_mem_cons.mpr ⟨k_X11_81, (fun _ h => absurd h List.not_mem_nil)⟩)⟩) (List.forall_mem_cons.mpr ⟨v_St_become l q_1009 (by decide), (List.forall_mem_cons.mpr ⟨v_Ls_rememberIf l q_1134 (by decide), (List.forall_mem_cons.mpr ⟨v_St_amend l q_1142 (by decide), (fun _ h => absurd h List.not_mem_nil)⟩)⟩)⟩) (fun _ h => absurd h List.not_mem_nil) (fun _ h => absurd h List.not_mem_nil)) (by decide +kernel) rfl (cats := [1, 1, 1, 1]) (fun as h r e => ⟨(mm_ga_inv e).1, (mm_gd_inv (mm_ga_inv e).2).1⟩) rfl (by decide)
theorem v_Ls_change (l : Launch) {own : String} {i n0 : Nat} (hl : Cond.methodLink own i yX11_change ∈ mm_tbl) (hn : 7 ≤ n0) : mm_cok l own n0 i (0, 3, 1, f_Ls_change) := Or.inr (Or.inr ⟨rfl, yX11_change, cX11_change, 4, (some .boolean), 6, 11, TX11, 16, i_Ls_change l, hn, by decide, by decide +kernel, rfl, fun _ _ _ e => (mm_gd_inv (mm_ga_inv e).2).2, hl, q_1139, q_1140, q_163, q_1141⟩)
def p_Ls_point : mm_P := ([(0, .aload_n 0, 1, 0), (1, .getfield 81, 3, 0), (4, .aload_n 0, 1, 0), (5, .getfield 77, 3, 0), (8, .invokevirtual 174, 3, 0), (11, .aload_n 0, 1, 0), (12, .getfield 77, 3, 0), (15, .iload_n 1, 1, 0), (16, .iload_n 2, 1, 0), (17, .invokevirtual 196, 3, 0), (20, .istore_n 3, 1, 0), (21, .iload_n 3, 1, 0), (22, .iconst (-1), 1, (-1)), (23, .if_icmp .eq 7, 3, 0), (26, .aload_n 0, 1, 0), (27, .invokevirtual 182, 3, 0), (30, .iload_n 3, 1, 0), (31, .ireturn, 1, 0)], [(77, 11, 13, 2), (81, 11, 14, 2)], [(174, 0, 1, 0, f_St_become), (182, 0, 0, 0, f_Ls_remember), (196, 0, 2, 1, f_St_aim)], [], [], [(0, [0, 1, 2])], [], 2)
def f_Ls_point : mm_F := fun args h => mm_ga [1, 1, 1] args (mm_gd 11 args h (mm_run p_Ls_point (mm_fu + 1) 0 args [] h))
set_option maxRecDepth 100000 in
theorem e_Ls_point_0 (f : Nat) (t : Nat) (v1 : Int32) (v2 : Int32) (h : mm_H) : mm_run p_Ls_point (f + 1) 0 [.ref t, .int v1, .int v2] [] h =
  (mm_gr 11 14 h t).bind fun r1 =>
  (mm_gr 11 13 h t).bind fun r2 =>
  mm_cv (f_St_become [.ref r1, .ref r2] h) fun h3 =>
  (mm_gr 11 13 h3 t).bind fun r4 =>
  mm_ci (f_St_aim [.ref r4, .int v1, .int v2] h3) fun x6 h5 =>
  if x6 = (-1) then
    some (some (.int x6), h5)
  else
    mm_cv (f_Ls_remember [.ref t] h5) fun h7 =>
    some (some (.int x6), h7) := rfl
theorem e_Ls_point (t : Nat) (v1 : Int32) (v2 : Int32) (h : mm_H) {fs : List Value} (hb : h t = some (.inr (11, fs))) : f_Ls_point [.ref t, .int v1, .int v2] h =
  (mm_gr 11 14 h t).bind fun r1 =>
  (mm_gr 11 13 h t).bind fun r2 =>
  mm_cv (f_St_become [.ref r1, .ref r2] h) fun h3 =>
  (mm_gr 11 13 h3 t).bind fun r4 =>
  mm_ci (f_St_aim [.ref r4, .int v1, .int v2] h3) fun x6 h5 =>
  if x6 = (-1) then
    some (some (.int x6), h5)
  else
    mm_cv (f_Ls_remember [.ref t] h5) fun h7 =>
    some (some (.int x6), h7) := (mm_ga_is rfl).trans ((mm_gd_is hb).trans (e_Ls_point_0 mm_fu t v1 v2 h))
set_option maxRecDepth 100000 in
theorem i_Ls_point (l : Launch) : mm_Imp l yX11_point cX11_point 4 (some .int) 4 f_Ls_point := mm_imp l (P := p_Ls_point) mm_cls_ok mm_sys_ok (by decide) (mm_Pok_of (List.forall_mem_cons.mpr ⟨k_X11_77, (List.forall_mem_cons.mpr ⟨k_X11_81, (fun _ h => absurd h List.not_mem_nil)⟩)⟩) (List.forall_mem_cons.mpr ⟨v_St_become l q_1009 (by decide), (List.forall_mem_cons.mpr ⟨v_Ls_remember l q_1093 (by decide), (List.forall_mem_cons.mpr ⟨v_St_aim l q_1157 (by decide), (fun _ h => absurd h List.not_mem_nil)⟩)⟩)⟩) (fun _ h => absurd h List.not_mem_nil) (fun _ h => absurd h List.not_mem_nil)) (by decide +kernel) rfl (cats := [1, 1, 1]) (fun as h r e => ⟨(mm_ga_inv e).1, (mm_gd_inv (mm_ga_inv e).2).1⟩) rfl (by decide)
theorem v_Ls_point (l : Launch) {own : String} {i n0 : Nat} (hl : Cond.methodLink own i yX11_point ∈ mm_tbl) (hn : 5 ≤ n0) : mm_cok l own n0 i (0, 2, 1, f_Ls_point) := Or.inr (Or.inr ⟨rfl, yX11_point, cX11_point, 4, (some .int), 4, 11, TX11, 16, i_Ls_point l, hn, by decide, by decide +kernel, rfl, fun _ _ _ e => (mm_gd_inv (mm_ga_inv e).2).2, hl, q_1154, q_1155, q_163, q_1156⟩)
def p_Ls_drop : mm_P := ([(0, .aload_n 0, 1, 0), (1, .getfield 81, 3, 0), (4, .aload_n 0, 1, 0), (5, .getfield 77, 3, 0), (8, .invokevirtual 174, 3, 0), (11, .aload_n 0, 1, 0), (12, .aload_n 0, 1, 0), (13, .getfield 77, 3, 0), (16, .getfield 161, 3, 0), (19, .iload_n 1, 1, 0), (20, .invokevirtual 199, 3, 0), (23, .invokevirtual 188, 3, 0), (26, .ireturn, 1, 0)], [(77, 11, 13, 2), (81, 11, 14, 2), (161, 8, 1, 4)], [(174, 0, 1, 0, f_St_become), (188, 0, 1, 1, f_Ls_rememberIf), (199, 0, 1, 1, f_Pt_discard)], [], [], [(0, [0, 1])], [], 1)
def f_Ls_drop : mm_F := fun args h => mm_ga [1, 1] args (mm_gd 11 args h (mm_run p_Ls_drop (mm_fu + 1) 0 args [] h))
set_option maxRecDepth 100000 in
theorem e_Ls_drop_0 (f : Nat) (t : Nat) (v1 : Int32) (h : mm_H) : mm_run p_Ls_drop (f + 1) 0 [.ref t, .int v1] [] h =
  (mm_gr 11 14 h t).bind fun r1 =>
  (mm_gr 11 13 h t).bind fun r2 =>
  mm_cv (f_St_become [.ref r1, .ref r2] h) fun h3 =>
  (mm_gr 11 13 h3 t).bind fun r4 =>
  (mm_gr 8 1 h3 r4).bind fun r5 =>
  mm_ci (f_Pt_discard [.ref r5, .int v1] h3) fun x7 h6 =>
  mm_ci (f_Ls_rememberIf [.ref t, .int x7] h6) fun x9 h8 =>
  if x9 = 0 ∨ x9 = 1 then some (some (.int x9), h8) else none := rfl
theorem e_Ls_drop (t : Nat) (v1 : Int32) (h : mm_H) {fs : List Value} (hb : h t = some (.inr (11, fs))) : f_Ls_drop [.ref t, .int v1] h =
  (mm_gr 11 14 h t).bind fun r1 =>
  (mm_gr 11 13 h t).bind fun r2 =>
  mm_cv (f_St_become [.ref r1, .ref r2] h) fun h3 =>
  (mm_gr 11 13 h3 t).bind fun r4 =>
  (mm_gr 8 1 h3 r4).bind fun r5 =>
  mm_ci (f_Pt_discard [.ref r5, .int v1] h3) fun x7 h6 =>
  mm_ci (f_Ls_rememberIf [.ref t, .int x7] h6) fun x9 h8 =>
  if x9 = 0 ∨ x9 = 1 then some (some (.int x9), h8) else none := (mm_ga_is rfl).trans ((mm_gd_is hb).trans (e_Ls_drop_0 mm_fu t v1 h))
set_option maxRecDepth 100000 in
theorem i_Ls_drop (l : Launch) : mm_Imp l yX11_drop cX11_drop 2 (some .boolean) 4 f_Ls_drop := mm_imp l (P := p_Ls_drop) mm_cls_ok mm_sys_ok (by decide) (mm_Pok_of (List.forall_mem_cons.mpr ⟨k_X11_77, (List.forall_mem_cons.mpr ⟨k_X11_81, (List.forall_mem_cons.mpr ⟨k_X11_161, (fun _ h => absurd h List.not_mem_nil)⟩)⟩)⟩) (List.forall_mem_cons.mpr ⟨v_St_become l q_1009 (by decide), (List.forall_mem_cons.mpr ⟨v_Ls_rememberIf l q_1134 (by decide), (List.forall_mem_cons.mpr ⟨v_Pt_discard l q_1165 (by decide), (fun _ h => absurd h List.not_mem_nil)⟩)⟩)⟩) (fun _ h => absurd h List.not_mem_nil) (fun _ h => absurd h List.not_mem_nil)) (by decide +kernel) rfl (cats := [1, 1]) (fun as h r e => ⟨(mm_ga_inv e).1, (mm_gd_inv (mm_ga_inv e).2).1⟩) rfl (by decide)
theorem v_Ls_drop (l : Launch) {own : String} {i n0 : Nat} (hl : Cond.methodLink own i yX11_drop ∈ mm_tbl) (hn : 5 ≤ n0) : mm_cok l own n0 i (0, 1, 1, f_Ls_drop) := Or.inr (Or.inr ⟨rfl, yX11_drop, cX11_drop, 2, (some .boolean), 4, 11, TX11, 16, i_Ls_drop l, hn, by decide, by decide +kernel, rfl, fun _ _ _ e => (mm_gd_inv (mm_ga_inv e).2).2, hl, q_1162, q_1163, q_163, q_1164⟩)
def p_Ls_begin : mm_P := ([(0, .iload_n 1, 1, 0), (1, .iconst (-1), 1, (-1)), (2, .if_icmp .eq 13, 3, 0), (5, .aload_n 0, 1, 0), (6, .iload_n 1, 1, 0), (7, .invokevirtual 132, 3, 0), (10, .ifCond .ne 5, 3, 0), (13, .iconst (-1), 1, (-1)), (14, .ireturn, 1, 0), (15, .aload_n 0, 1, 0), (16, .getfield 81, 3, 0), (19, .aload_n 0, 1, 0), (20, .getfield 77, 3, 0), (23, .invokevirtual 174, 3, 0), (26, .aload_n 0, 1, 0), (27, .getfield 77, 3, 0), (30, .iload_n 1, 1, 0), (31, .iload_n 2, 1, 0), (32, .iload_n 3, 1, 0), (33, .invokevirtual 202, 3, 0), (36, .ifCond .ne 5, 3, 0), (39, .iconst (-1), 1, (-1)), (40, .ireturn, 1, 0), (41, .aload_n 0, 1, 0), (42, .invokevirtual 182, 3, 0), (45, .aload_n 0, 1, 0), (46, .getfield 77, 3, 0), (49, .getfield 108, 3, 0), (52, .getfield 125, 3, 0), (55, .invokestatic 205, 3, 0), (58, .ireturn, 1, 0)], [(77, 11, 13, 2), (81, 11, 14, 2), (108, 8, 0, 4), (125, 7, 3, 0)], [(132, 0, 1, 1, f_Ls_isIndex), (174, 0, 1, 0, f_St_become), (182, 0, 0, 0, f_Ls_remember), (202, 0, 3, 1, f_St_launch), (205, 1, 1, 1, f_Ji_bitCount)], [], [], [(0, [0, 1, 2, 3]), (15, [0, 1, 2, 3])], [], 2)
def f_Ls_begin : mm_F := fun args h => mm_ga [1, 1, 1, 1] args (mm_gd 11 args h (mm_run p_Ls_begin (mm_fu + 1) 0 args [] h))
set_option maxRecDepth 100000 in
theorem e_Ls_begin_0 (f : Nat) (t : Nat) (v1 : Int32) (v2 : Int32) (v3 : Int32) (h : mm_H) : mm_run p_Ls_begin (f + 1) 0 [.ref t, .int v1, .int v2, .int v3] [] h =
  if v1 = (-1) then
    mm_run p_Ls_begin f 15 [.ref t, .int v1, .int v2, .int v3] [] h
  else
    mm_ci (f_Ls_isIndex [.ref t, .int v1] h) fun x2 h1 =>
    if x2 = 0 then
      some (some (.int (-1)), h1)
    else
      mm_run p_Ls_begin f 15 [.ref t, .int v1, .int v2, .int v3] [] h1 := rfl
theorem e_Ls_begin (t : Nat) (v1 : Int32) (v2 : Int32) (v3 : Int32) (h : mm_H) {fs : List Value} (hb : h t = some (.inr (11, fs))) : f_Ls_begin [.ref t, .int v1, .int v2, .int v3] h =
  if v1 = (-1) then
    mm_run p_Ls_begin mm_fu 15 [.ref t, .int v1, .int v2, .int v3] [] h
  else
    mm_ci (f_Ls_isIndex [.ref t, .int v1] h) fun x2 h1 =>
    if x2 = 0 then
      some (some (.int (-1)), h1)
    else
      mm_run p_Ls_begin mm_fu 15 [.ref t, .int v1, .int v2, .int v3] [] h1 := (mm_ga_is rfl).trans ((mm_gd_is hb).trans (e_Ls_begin_0 mm_fu t v1 v2 v3 h))
set_option maxRecDepth 100000 in
theorem e_Ls_begin_15 (f : Nat) (t : Nat) (v1 : Int32) (v2 : Int32) (v3 : Int32) (h : mm_H) : mm_run p_Ls_begin (f + 1) 15 [.ref t, .int v1, .int v2, .int v3] [] h =
  (mm_gr 11 14 h t).bind fun r1 =>
  (mm_gr 11 13 h t).bind fun r2 =>
  mm_cv (f_St_become [.ref r1, .ref r2] h) fun h3 =>
  (mm_gr 11 13 h3 t).bind fun r4 =>
  mm_ci (f_St_launch [.ref r4, .int v1, .int v2, .int v3] h3) fun x6 h5 =>
  if x6 = 0 then
    some (some (.int (-1)), h5)
  else
    mm_cv (f_Ls_remember [.ref t] h5) fun h7 =>
    (mm_gr 11 13 h7 t).bind fun r8 =>
    (mm_gr 8 0 h7 r8).bind fun r9 =>
    (mm_gi 7 3 h7 r9).bind fun x10 =>
    mm_ci (f_Ji_bitCount [.int x10] h7) fun x12 h11 =>
    some (some (.int x12), h11) := rfl
set_option maxRecDepth 100000 in
theorem i_Ls_begin (l : Launch) : mm_Imp l yX11_begin cX11_begin 4 (some .int) 6 f_Ls_begin := mm_imp l (P := p_Ls_begin) mm_cls_ok mm_sys_ok (by decide) (mm_Pok_of (List.forall_mem_cons.mpr ⟨k_X11_77, (List.forall_mem_cons.mpr ⟨k_X11_81, (List.forall_mem_cons.mpr ⟨k_X11_108, (List.forall_mem_cons.mpr ⟨k_X11_125, (fun _ h => absurd h List.not_mem_nil)⟩)⟩)⟩)⟩) (List.forall_mem_cons.mpr ⟨v_Ls_isIndex l q_974 (by decide), (List.forall_mem_cons.mpr ⟨v_St_become l q_1009 (by decide), (List.forall_mem_cons.mpr ⟨v_Ls_remember l q_1093 (by decide), (List.forall_mem_cons.mpr ⟨v_St_launch l q_1173 (by decide), (List.forall_mem_cons.mpr ⟨v_Ji_bitCount l (Or.inl q_1222) (by decide), (fun _ h => absurd h List.not_mem_nil)⟩)⟩)⟩)⟩)⟩) (fun _ h => absurd h List.not_mem_nil) (fun _ h => absurd h List.not_mem_nil)) (by decide +kernel) rfl (cats := [1, 1, 1, 1]) (fun as h r e => ⟨(mm_ga_inv e).1, (mm_gd_inv (mm_ga_inv e).2).1⟩) rfl (by decide)
theorem v_Ls_begin (l : Launch) {own : String} {i n0 : Nat} (hl : Cond.methodLink own i yX11_begin ∈ mm_tbl) (hn : 7 ≤ n0) : mm_cok l own n0 i (0, 3, 1, f_Ls_begin) := Or.inr (Or.inr ⟨rfl, yX11_begin, cX11_begin, 4, (some .int), 6, 11, TX11, 16, i_Ls_begin l, hn, by decide, by decide +kernel, rfl, fun _ _ _ e => (mm_gd_inv (mm_ga_inv e).2).2, hl, q_1170, q_1171, q_163, q_1172⟩)
def p_Ls_step : mm_P := ([(0, .aload_n 0, 1, 0), (1, .getfield 81, 3, 0), (4, .aload_n 0, 1, 0), (5, .getfield 77, 3, 0), (8, .invokevirtual 174, 3, 0), (11, .aload_n 0, 1, 0), (12, .getfield 77, 3, 0), (15, .invokevirtual 210, 3, 0), (18, .istore_n 1, 1, 0), (19, .iload_n 1, 1, 0), (20, .iconst (-1), 1, (-1)), (21, .if_icmp .eq 7, 3, 0), (24, .aload_n 0, 1, 0), (25, .invokevirtual 182, 3, 0), (28, .iload_n 1, 1, 0), (29, .ireturn, 1, 0)], [(77, 11, 13, 2), (81, 11, 14, 2)], [(174, 0, 1, 0, f_St_become), (182, 0, 0, 0, f_Ls_remember), (210, 0, 0, 1, f_St_advance)], [], [], [(0, [0])], [], 2)
def f_Ls_step : mm_F := fun args h => mm_ga [1] args (mm_gd 11 args h (mm_run p_Ls_step (mm_fu + 1) 0 args [] h))
set_option maxRecDepth 100000 in
theorem e_Ls_step_0 (f : Nat) (t : Nat) (h : mm_H) : mm_run p_Ls_step (f + 1) 0 [.ref t] [] h =
  (mm_gr 11 14 h t).bind fun r1 =>
  (mm_gr 11 13 h t).bind fun r2 =>
  mm_cv (f_St_become [.ref r1, .ref r2] h) fun h3 =>
  (mm_gr 11 13 h3 t).bind fun r4 =>
  mm_ci (f_St_advance [.ref r4] h3) fun x6 h5 =>
  if x6 = (-1) then
    some (some (.int x6), h5)
  else
    mm_cv (f_Ls_remember [.ref t] h5) fun h7 =>
    some (some (.int x6), h7) := rfl
theorem e_Ls_step (t : Nat) (h : mm_H) {fs : List Value} (hb : h t = some (.inr (11, fs))) : f_Ls_step [.ref t] h =
  (mm_gr 11 14 h t).bind fun r1 =>
  (mm_gr 11 13 h t).bind fun r2 =>
  mm_cv (f_St_become [.ref r1, .ref r2] h) fun h3 =>
  (mm_gr 11 13 h3 t).bind fun r4 =>
  mm_ci (f_St_advance [.ref r4] h3) fun x6 h5 =>
  if x6 = (-1) then
    some (some (.int x6), h5)
  else
    mm_cv (f_Ls_remember [.ref t] h5) fun h7 =>
    some (some (.int x6), h7) := (mm_ga_is rfl).trans ((mm_gd_is hb).trans (e_Ls_step_0 mm_fu t h))
set_option maxRecDepth 100000 in
theorem i_Ls_step (l : Launch) : mm_Imp l yX11_step cX11_step 2 (some .int) 5 f_Ls_step := mm_imp l (P := p_Ls_step) mm_cls_ok mm_sys_ok (by decide) (mm_Pok_of (List.forall_mem_cons.mpr ⟨k_X11_77, (List.forall_mem_cons.mpr ⟨k_X11_81, (fun _ h => absurd h List.not_mem_nil)⟩)⟩) (List.forall_mem_cons.mpr ⟨v_St_become l q_1009 (by decide), (List.forall_mem_cons.mpr ⟨v_Ls_remember l q_1093 (by decide), (List.forall_mem_cons.mpr ⟨v_St_advance l q_1227 (by decide), (fun _ h => absurd h List.not_mem_nil)⟩)⟩)⟩) (fun _ h => absurd h List.not_mem_nil) (fun _ h => absurd h List.not_mem_nil)) (by decide +kernel) rfl (cats := [1]) (fun as h r e => ⟨(mm_ga_inv e).1, (mm_gd_inv (mm_ga_inv e).2).1⟩) rfl (by decide)
theorem v_Ls_step (l : Launch) {own : String} {i n0 : Nat} (hl : Cond.methodLink own i yX11_step ∈ mm_tbl) (hn : 6 ≤ n0) : mm_cok l own n0 i (0, 0, 1, f_Ls_step) := Or.inr (Or.inr ⟨rfl, yX11_step, cX11_step, 2, (some .int), 5, 11, TX11, 16, i_Ls_step l, hn, by decide, by decide +kernel, rfl, fun _ _ _ e => (mm_gd_inv (mm_ga_inv e).2).2, hl, q_1224, q_1225, q_163, q_1226⟩)
def p_Ls_stop : mm_P := ([(0, .aload_n 0, 1, 0), (1, .getfield 81, 3, 0), (4, .aload_n 0, 1, 0), (5, .getfield 77, 3, 0), (8, .invokevirtual 174, 3, 0), (11, .aload_n 0, 1, 0), (12, .aload_n 0, 1, 0), (13, .getfield 77, 3, 0), (16, .invokevirtual 213, 3, 0), (19, .invokevirtual 188, 3, 0), (22, .ireturn, 1, 0)], [(77, 11, 13, 2), (81, 11, 14, 2)], [(174, 0, 1, 0, f_St_become), (188, 0, 1, 1, f_Ls_rememberIf), (213, 0, 0, 1, f_St_halt)], [], [], [(0, [0])], [], 1)
def f_Ls_stop : mm_F := fun args h => mm_ga [1] args (mm_gd 11 args h (mm_run p_Ls_stop (mm_fu + 1) 0 args [] h))
set_option maxRecDepth 100000 in
theorem e_Ls_stop_0 (f : Nat) (t : Nat) (h : mm_H) : mm_run p_Ls_stop (f + 1) 0 [.ref t] [] h =
  (mm_gr 11 14 h t).bind fun r1 =>
  (mm_gr 11 13 h t).bind fun r2 =>
  mm_cv (f_St_become [.ref r1, .ref r2] h) fun h3 =>
  (mm_gr 11 13 h3 t).bind fun r4 =>
  mm_ci (f_St_halt [.ref r4] h3) fun x6 h5 =>
  mm_ci (f_Ls_rememberIf [.ref t, .int x6] h5) fun x8 h7 =>
  if x8 = 0 ∨ x8 = 1 then some (some (.int x8), h7) else none := rfl
theorem e_Ls_stop (t : Nat) (h : mm_H) {fs : List Value} (hb : h t = some (.inr (11, fs))) : f_Ls_stop [.ref t] h =
  (mm_gr 11 14 h t).bind fun r1 =>
  (mm_gr 11 13 h t).bind fun r2 =>
  mm_cv (f_St_become [.ref r1, .ref r2] h) fun h3 =>
  (mm_gr 11 13 h3 t).bind fun r4 =>
  mm_ci (f_St_halt [.ref r4] h3) fun x6 h5 =>
  mm_ci (f_Ls_rememberIf [.ref t, .int x6] h5) fun x8 h7 =>
  if x8 = 0 ∨ x8 = 1 then some (some (.int x8), h7) else none := (mm_ga_is rfl).trans ((mm_gd_is hb).trans (e_Ls_stop_0 mm_fu t h))
set_option maxRecDepth 100000 in
theorem i_Ls_stop (l : Launch) : mm_Imp l yX11_stop cX11_stop 1 (some .boolean) 5 f_Ls_stop := mm_imp l (P := p_Ls_stop) mm_cls_ok mm_sys_ok (by decide) (mm_Pok_of (List.forall_mem_cons.mpr ⟨k_X11_77, (List.forall_mem_cons.mpr ⟨k_X11_81, (fun _ h => absurd h List.not_mem_nil)⟩)⟩) (List.forall_mem_cons.mpr ⟨v_St_become l q_1009 (by decide), (List.forall_mem_cons.mpr ⟨v_Ls_rememberIf l q_1134 (by decide), (List.forall_mem_cons.mpr ⟨v_St_halt l q_1259 (by decide), (fun _ h => absurd h List.not_mem_nil)⟩)⟩)⟩) (fun _ h => absurd h List.not_mem_nil) (fun _ h => absurd h List.not_mem_nil)) (by decide +kernel) rfl (cats := [1]) (fun as h r e => ⟨(mm_ga_inv e).1, (mm_gd_inv (mm_ga_inv e).2).1⟩) rfl (by decide)
theorem v_Ls_stop (l : Launch) {own : String} {i n0 : Nat} (hl : Cond.methodLink own i yX11_stop ∈ mm_tbl) (hn : 6 ≤ n0) : mm_cok l own n0 i (0, 0, 1, f_Ls_stop) := Or.inr (Or.inr ⟨rfl, yX11_stop, cX11_stop, 1, (some .boolean), 5, 11, TX11, 16, i_Ls_stop l, hn, by decide, by decide +kernel, rfl, fun _ _ _ e => (mm_gd_inv (mm_ga_inv e).2).2, hl, q_1256, q_1257, q_163, q_1258⟩)
def p_Ls_crash : mm_P := ([(0, .aload_n 0, 1, 0), (1, .getfield 77, 3, 0), (4, .invokevirtual 217, 3, 0), (7, .istore_n 1, 1, 0), (8, .iload_n 1, 1, 0), (9, .iconst (-1), 1, (-1)), (10, .if_icmp .eq 8, 3, 0), (13, .aload_n 0, 1, 0), (14, .iconst 0, 1, 0), (15, .putfield 42, 3, 0), (18, .iload_n 1, 1, 0), (19, .ireturn, 1, 0)], [(42, 11, 5, 0), (77, 11, 13, 2)], [(217, 0, 0, 1, f_St_fall)], [], [], [(0, [0])], [], 2)
def f_Ls_crash : mm_F := fun args h => mm_ga [1] args (mm_gd 11 args h (mm_run p_Ls_crash (mm_fu + 1) 0 args [] h))
set_option maxRecDepth 100000 in
theorem e_Ls_crash_0 (f : Nat) (t : Nat) (h : mm_H) : mm_run p_Ls_crash (f + 1) 0 [.ref t] [] h =
  (mm_gr 11 13 h t).bind fun r1 =>
  mm_ci (f_St_fall [.ref r1] h) fun x3 h2 =>
  if x3 = (-1) then
    some (some (.int x3), h2)
  else
    (mm_pf 11 5 (.int 0) h2 t).bind fun h4 =>
    some (some (.int x3), h4) := rfl
theorem e_Ls_crash (t : Nat) (h : mm_H) {fs : List Value} (hb : h t = some (.inr (11, fs))) : f_Ls_crash [.ref t] h =
  (mm_gr 11 13 h t).bind fun r1 =>
  mm_ci (f_St_fall [.ref r1] h) fun x3 h2 =>
  if x3 = (-1) then
    some (some (.int x3), h2)
  else
    (mm_pf 11 5 (.int 0) h2 t).bind fun h4 =>
    some (some (.int x3), h4) := (mm_ga_is rfl).trans ((mm_gd_is hb).trans (e_Ls_crash_0 mm_fu t h))
set_option maxRecDepth 100000 in
theorem i_Ls_crash (l : Launch) : mm_Imp l yX11_crash cX11_crash 2 (some .int) 3 f_Ls_crash := mm_imp l (P := p_Ls_crash) mm_cls_ok mm_sys_ok (by decide) (mm_Pok_of (List.forall_mem_cons.mpr ⟨k_X11_42, (List.forall_mem_cons.mpr ⟨k_X11_77, (fun _ h => absurd h List.not_mem_nil)⟩)⟩) (List.forall_mem_cons.mpr ⟨v_St_fall l q_1276 (by decide), (fun _ h => absurd h List.not_mem_nil)⟩) (fun _ h => absurd h List.not_mem_nil) (fun _ h => absurd h List.not_mem_nil)) (by decide +kernel) rfl (cats := [1]) (fun as h r e => ⟨(mm_ga_inv e).1, (mm_gd_inv (mm_ga_inv e).2).1⟩) rfl (by decide)
theorem v_Ls_crash (l : Launch) {own : String} {i n0 : Nat} (hl : Cond.methodLink own i yX11_crash ∈ mm_tbl) (hn : 4 ≤ n0) : mm_cok l own n0 i (0, 0, 1, f_Ls_crash) := Or.inr (Or.inr ⟨rfl, yX11_crash, cX11_crash, 2, (some .int), 3, 11, TX11, 16, i_Ls_crash l, hn, by decide, by decide +kernel, rfl, fun _ _ _ e => (mm_gd_inv (mm_ga_inv e).2).2, hl, q_1273, q_1274, q_163, q_1275⟩)
def p_Ls_resume : mm_P := ([(0, .aload_n 0, 1, 0), (1, .getfield 81, 3, 0), (4, .aload_n 0, 1, 0), (5, .getfield 77, 3, 0), (8, .invokevirtual 174, 3, 0), (11, .aload_n 0, 1, 0), (12, .getfield 77, 3, 0), (15, .invokevirtual 220, 3, 0), (18, .ifCond .ne 5, 3, 0), (21, .iconst (-1), 1, (-1)), (22, .ireturn, 1, 0), (23, .aload_n 0, 1, 0), (24, .invokevirtual 182, 3, 0), (27, .aload_n 0, 1, 0), (28, .getfield 77, 3, 0), (31, .invokevirtual 223, 3, 0), (34, .ireturn, 1, 0)], [(77, 11, 13, 2), (81, 11, 14, 2)], [(174, 0, 1, 0, f_St_become), (182, 0, 0, 0, f_Ls_remember), (220, 0, 0, 1, f_St_rise), (223, 0, 0, 1, f_St_leftWhereAt)], [], [], [(0, [0])], [], 2)
def f_Ls_resume : mm_F := fun args h => mm_ga [1] args (mm_gd 11 args h (mm_run p_Ls_resume (mm_fu + 1) 0 args [] h))
set_option maxRecDepth 100000 in
theorem e_Ls_resume_0 (f : Nat) (t : Nat) (h : mm_H) : mm_run p_Ls_resume (f + 1) 0 [.ref t] [] h =
  (mm_gr 11 14 h t).bind fun r1 =>
  (mm_gr 11 13 h t).bind fun r2 =>
  mm_cv (f_St_become [.ref r1, .ref r2] h) fun h3 =>
  (mm_gr 11 13 h3 t).bind fun r4 =>
  mm_ci (f_St_rise [.ref r4] h3) fun x6 h5 =>
  if x6 = 0 then
    some (some (.int (-1)), h5)
  else
    mm_cv (f_Ls_remember [.ref t] h5) fun h7 =>
    (mm_gr 11 13 h7 t).bind fun r8 =>
    mm_ci (f_St_leftWhereAt [.ref r8] h7) fun x10 h9 =>
    some (some (.int x10), h9) := rfl
theorem e_Ls_resume (t : Nat) (h : mm_H) {fs : List Value} (hb : h t = some (.inr (11, fs))) : f_Ls_resume [.ref t] h =
  (mm_gr 11 14 h t).bind fun r1 =>
  (mm_gr 11 13 h t).bind fun r2 =>
  mm_cv (f_St_become [.ref r1, .ref r2] h) fun h3 =>
  (mm_gr 11 13 h3 t).bind fun r4 =>
  mm_ci (f_St_rise [.ref r4] h3) fun x6 h5 =>
  if x6 = 0 then
    some (some (.int (-1)), h5)
  else
    mm_cv (f_Ls_remember [.ref t] h5) fun h7 =>
    (mm_gr 11 13 h7 t).bind fun r8 =>
    mm_ci (f_St_leftWhereAt [.ref r8] h7) fun x10 h9 =>
    some (some (.int x10), h9) := (mm_ga_is rfl).trans ((mm_gd_is hb).trans (e_Ls_resume_0 mm_fu t h))
set_option maxRecDepth 100000 in
theorem i_Ls_resume (l : Launch) : mm_Imp l yX11_resume cX11_resume 1 (some .int) 5 f_Ls_resume := mm_imp l (P := p_Ls_resume) mm_cls_ok mm_sys_ok (by decide) (mm_Pok_of (List.forall_mem_cons.mpr ⟨k_X11_77, (List.forall_mem_cons.mpr ⟨k_X11_81, (fun _ h => absurd h List.not_mem_nil)⟩)⟩) (List.forall_mem_cons.mpr ⟨v_St_become l q_1009 (by decide), (List.forall_mem_cons.mpr ⟨v_Ls_remember l q_1093 (by decide), (List.forall_mem_cons.mpr ⟨v_St_rise l q_1284 (by decide), (List.forall_mem_cons.mpr ⟨v_St_leftWhereAt l q_1294 (by decide), (fun _ h => absurd h List.not_mem_nil)⟩)⟩)⟩)⟩) (fun _ h => absurd h List.not_mem_nil) (fun _ h => absurd h List.not_mem_nil)) (by decide +kernel) rfl (cats := [1]) (fun as h r e => ⟨(mm_ga_inv e).1, (mm_gd_inv (mm_ga_inv e).2).1⟩) rfl (by decide)
theorem v_Ls_resume (l : Launch) {own : String} {i n0 : Nat} (hl : Cond.methodLink own i yX11_resume ∈ mm_tbl) (hn : 6 ≤ n0) : mm_cok l own n0 i (0, 0, 1, f_Ls_resume) := Or.inr (Or.inr ⟨rfl, yX11_resume, cX11_resume, 1, (some .int), 5, 11, TX11, 16, i_Ls_resume l, hn, by decide, by decide +kernel, rfl, fun _ _ _ e => (mm_gd_inv (mm_ga_inv e).2).2, hl, q_1281, q_1282, q_163, q_1283⟩)
def p_Ls_pack : mm_P := ([(0, .aload_n 0, 1, 0), (1, .iload_n 1, 1, 0), (2, .invokevirtual 132, 3, 0), (5, .ifCond .ne 5, 3, 0), (8, .iconst (-1), 1, (-1)), (9, .ireturn, 1, 0), (10, .aload_n 0, 1, 0), (11, .getfield 81, 3, 0), (14, .aload_n 0, 1, 0), (15, .getfield 77, 3, 0), (18, .invokevirtual 174, 3, 0), (21, .aload_n 0, 1, 0), (22, .getfield 77, 3, 0), (25, .iload_n 1, 1, 0), (26, .invokevirtual 226, 3, 0), (29, .istore_n 2, 1, 0), (30, .iload_n 2, 1, 0), (31, .iconst (-1), 1, (-1)), (32, .if_icmp .eq 7, 3, 0), (35, .aload_n 0, 1, 0), (36, .invokevirtual 182, 3, 0), (39, .iload_n 2, 1, 0), (40, .ireturn, 1, 0)], [(77, 11, 13, 2), (81, 11, 14, 2)], [(132, 0, 1, 1, f_Ls_isIndex), (174, 0, 1, 0, f_St_become), (182, 0, 0, 0, f_Ls_remember), (226, 0, 1, 1, f_St_join)], [], [], [(0, [0, 1])], [], 2)
def f_Ls_pack : mm_F := fun args h => mm_ga [1, 1] args (mm_gd 11 args h (mm_run p_Ls_pack (mm_fu + 1) 0 args [] h))
set_option maxRecDepth 100000 in
theorem e_Ls_pack_0 (f : Nat) (t : Nat) (v1 : Int32) (h : mm_H) : mm_run p_Ls_pack (f + 1) 0 [.ref t, .int v1] [] h =
  mm_ci (f_Ls_isIndex [.ref t, .int v1] h) fun x2 h1 =>
  if x2 = 0 then
    some (some (.int (-1)), h1)
  else
    (mm_gr 11 14 h1 t).bind fun r3 =>
    (mm_gr 11 13 h1 t).bind fun r4 =>
    mm_cv (f_St_become [.ref r3, .ref r4] h1) fun h5 =>
    (mm_gr 11 13 h5 t).bind fun r6 =>
    mm_ci (f_St_join [.ref r6, .int v1] h5) fun x8 h7 =>
    if x8 = (-1) then
      some (some (.int x8), h7)
    else
      mm_cv (f_Ls_remember [.ref t] h7) fun h9 =>
      some (some (.int x8), h9) := rfl
theorem e_Ls_pack (t : Nat) (v1 : Int32) (h : mm_H) {fs : List Value} (hb : h t = some (.inr (11, fs))) : f_Ls_pack [.ref t, .int v1] h =
  mm_ci (f_Ls_isIndex [.ref t, .int v1] h) fun x2 h1 =>
  if x2 = 0 then
    some (some (.int (-1)), h1)
  else
    (mm_gr 11 14 h1 t).bind fun r3 =>
    (mm_gr 11 13 h1 t).bind fun r4 =>
    mm_cv (f_St_become [.ref r3, .ref r4] h1) fun h5 =>
    (mm_gr 11 13 h5 t).bind fun r6 =>
    mm_ci (f_St_join [.ref r6, .int v1] h5) fun x8 h7 =>
    if x8 = (-1) then
      some (some (.int x8), h7)
    else
      mm_cv (f_Ls_remember [.ref t] h7) fun h9 =>
      some (some (.int x8), h9) := (mm_ga_is rfl).trans ((mm_gd_is hb).trans (e_Ls_pack_0 mm_fu t v1 h))
set_option maxRecDepth 100000 in
theorem i_Ls_pack (l : Launch) : mm_Imp l yX11_pack cX11_pack 3 (some .int) 4 f_Ls_pack := mm_imp l (P := p_Ls_pack) mm_cls_ok mm_sys_ok (by decide) (mm_Pok_of (List.forall_mem_cons.mpr ⟨k_X11_77, (List.forall_mem_cons.mpr ⟨k_X11_81, (fun _ h => absurd h List.not_mem_nil)⟩)⟩) (List.forall_mem_cons.mpr ⟨v_Ls_isIndex l q_974 (by decide), (List.forall_mem_cons.mpr ⟨v_St_become l q_1009 (by decide), (List.forall_mem_cons.mpr ⟨v_Ls_remember l q_1093 (by decide), (List.forall_mem_cons.mpr ⟨v_St_join l q_1303 (by decide), (fun _ h => absurd h List.not_mem_nil)⟩)⟩)⟩)⟩) (fun _ h => absurd h List.not_mem_nil) (fun _ h => absurd h List.not_mem_nil)) (by decide +kernel) rfl (cats := [1, 1]) (fun as h r e => ⟨(mm_ga_inv e).1, (mm_gd_inv (mm_ga_inv e).2).1⟩) rfl (by decide)
theorem v_Ls_pack (l : Launch) {own : String} {i n0 : Nat} (hl : Cond.methodLink own i yX11_pack ∈ mm_tbl) (hn : 5 ≤ n0) : mm_cok l own n0 i (0, 1, 1, f_Ls_pack) := Or.inr (Or.inr ⟨rfl, yX11_pack, cX11_pack, 3, (some .int), 4, 11, TX11, 16, i_Ls_pack l, hn, by decide, by decide +kernel, rfl, fun _ _ _ e => (mm_gd_inv (mm_ga_inv e).2).2, hl, q_1300, q_1301, q_163, q_1302⟩)
def p_Ls_undo : mm_P := ([(0, .aload_n 0, 1, 0), (1, .getfield 42, 3, 0), (4, .ifCond .ne 5, 3, 0), (7, .iconst 0, 1, 0), (8, .ireturn, 1, 0), (9, .aload_n 0, 1, 0), (10, .dup, 1, 0), (11, .getfield 42, 3, 0), (14, .iconst 1, 1, 1), (15, .isub, 1, 0), (16, .putfield 42, 3, 0), (19, .aload_n 0, 1, 0), (20, .getfield 38, 3, 0), (23, .aload_n 0, 1, 0), (24, .getfield 42, 3, 0), (27, .iadd, 1, 0), (28, .bipush 16, 2, 16), (30, .irem, 1, 0), (31, .istore_n 1, 1, 0), (32, .aload_n 0, 1, 0), (33, .getfield 34, 3, 0), (36, .iload_n 1, 1, 0), (37, .aaload, 1, 0), (38, .astore_n 2, 1, 0), (39, .aload_n 0, 1, 0), (40, .getfield 34, 3, 0), (43, .iload_n 1, 1, 0), (44, .aload_n 0, 1, 0), (45, .getfield 77, 3, 0), (48, .aastore, 1, 0), (49, .aload_n 0, 1, 0), (50, .aload_n 2, 1, 0), (51, .putfield 77, 3, 0), (54, .iconst 1, 1, 1), (55, .ireturn, 1, 0)], [(34, 11, 3, 4), (38, 11, 4, 0), (42, 11, 5, 0), (77, 11, 13, 2)], [], [], [], [(0, [0])], [], 1)
def f_Ls_undo : mm_F := fun args h => mm_ga [1] args (mm_gd 11 args h (mm_run p_Ls_undo (mm_fu + 1) 0 args [] h))
set_option maxRecDepth 100000 in
theorem e_Ls_undo_0 (f : Nat) (t : Nat) (h : mm_H) : mm_run p_Ls_undo (f + 1) 0 [.ref t] [] h =
  (mm_gi 11 5 h t).bind fun x1 =>
  if x1 = 0 then
    some (some (.int 0), h)
  else
    (mm_gi 11 5 h t).bind fun x2 =>
    (mm_pf 11 5 (.int (x2 - 1)) h t).bind fun h3 =>
    (mm_gi 11 4 h3 t).bind fun x4 =>
    (mm_gi 11 5 h3 t).bind fun x5 =>
    (mm_gr 11 3 h3 t).bind fun r6 =>
    (mm_lr h3 r6 (mm_rem (x4 + x5) 16)).bind fun r7 =>
    (mm_gr 11 3 h3 t).bind fun r8 =>
    (mm_gr 11 13 h3 t).bind fun r9 =>
    (mm_sr h3 r8 (mm_rem (x4 + x5) 16) r9).bind fun h10 =>
    (mm_pf 11 13 (.ref r7) h10 t).bind fun h11 =>
    some (some (.int 1), h11) := rfl
theorem e_Ls_undo (t : Nat) (h : mm_H) {fs : List Value} (hb : h t = some (.inr (11, fs))) : f_Ls_undo [.ref t] h =
  (mm_gi 11 5 h t).bind fun x1 =>
  if x1 = 0 then
    some (some (.int 0), h)
  else
    (mm_gi 11 5 h t).bind fun x2 =>
    (mm_pf 11 5 (.int (x2 - 1)) h t).bind fun h3 =>
    (mm_gi 11 4 h3 t).bind fun x4 =>
    (mm_gi 11 5 h3 t).bind fun x5 =>
    (mm_gr 11 3 h3 t).bind fun r6 =>
    (mm_lr h3 r6 (mm_rem (x4 + x5) 16)).bind fun r7 =>
    (mm_gr 11 3 h3 t).bind fun r8 =>
    (mm_gr 11 13 h3 t).bind fun r9 =>
    (mm_sr h3 r8 (mm_rem (x4 + x5) 16) r9).bind fun h10 =>
    (mm_pf 11 13 (.ref r7) h10 t).bind fun h11 =>
    some (some (.int 1), h11) := (mm_ga_is rfl).trans ((mm_gd_is hb).trans (e_Ls_undo_0 mm_fu t h))
set_option maxRecDepth 100000 in
theorem i_Ls_undo (l : Launch) : mm_Imp l yX11_undo cX11_undo 3 (some .boolean) 1 f_Ls_undo := mm_imp l (P := p_Ls_undo) mm_cls_ok mm_sys_ok (by decide) (mm_Pok_of (List.forall_mem_cons.mpr ⟨k_X11_34, (List.forall_mem_cons.mpr ⟨k_X11_38, (List.forall_mem_cons.mpr ⟨k_X11_42, (List.forall_mem_cons.mpr ⟨k_X11_77, (fun _ h => absurd h List.not_mem_nil)⟩)⟩)⟩)⟩) (fun _ h => absurd h List.not_mem_nil) (fun _ h => absurd h List.not_mem_nil) (fun _ h => absurd h List.not_mem_nil)) (by decide +kernel) rfl (cats := [1]) (fun as h r e => ⟨(mm_ga_inv e).1, (mm_gd_inv (mm_ga_inv e).2).1⟩) rfl (by decide)
theorem v_Ls_undo (l : Launch) {own : String} {i n0 : Nat} (hl : Cond.methodLink own i yX11_undo ∈ mm_tbl) (hn : 2 ≤ n0) : mm_cok l own n0 i (0, 0, 1, f_Ls_undo) := Or.inr (Or.inr ⟨rfl, yX11_undo, cX11_undo, 3, (some .boolean), 1, 11, TX11, 16, i_Ls_undo l, hn, by decide, by decide +kernel, rfl, fun _ _ _ e => (mm_gd_inv (mm_ga_inv e).2).2, hl, q_1313, q_1314, q_163, q_1315⟩)
def p_Ls_judged : mm_P := ([(0, .iload_n 1, 1, 0), (1, .ifCond .lt 8, 3, 0), (4, .iload_n 1, 1, 0), (5, .iconst 2, 1, 2), (6, .if_icmp .le 6, 3, 0), (9, .bipush (-2), 2, (-2)), (11, .ireturn, 1, 0), (12, .aload_n 0, 1, 0), (13, .getfield 84, 3, 0), (16, .aload_n 0, 1, 0), (17, .getfield 57, 3, 0), (20, .invokevirtual 98, 3, 0), (23, .iconst (-1), 1, (-1)), (24, .istore_n 2, 1, 0), (25, .iconst 0, 1, 0), (26, .istore_n 3, 1, 0), (27, .iload_n 3, 1, 0), (28, .aload_n 0, 1, 0), (29, .getfield 67, 3, 0), (32, .getfield 101, 3, 0), (35, .if_icmp .ge 31, 3, 0), (38, .aload_n 0, 1, 0), (39, .getfield 67, 3, 0), (42, .iload_n 3, 1, 0), (43, .aload_n 0, 1, 0), (44, .getfield 84, 3, 0), (47, .invokevirtual 229, 3, 0), (50, .ifCond .ne 10, 3, 0), (53, .iload_n 2, 1, 0), (54, .iconst (-1), 1, (-1)), (55, .if_icmp .ne 5, 3, 0), (58, .iload_n 3, 1, 0), (59, .istore_n 2, 1, 0), (60, .iinc 3 1, 3, 1), (63, .goto (-36), 3, 0), (66, .iload_n 1, 1, 0), (67, .lookupswitch 41 #[(0, 25), (1, 27)], 25, 0), (92, .iload_n 2, 1, 0), (93, .ireturn, 1, 0), (94, .aload_n 0, 1, 0), (95, .getfield 84, 3, 0), (98, .getfield 108, 3, 0), (101, .invokevirtual 233, 3, 0), (104, .invokestatic 205, 3, 0), (107, .ireturn, 1, 0), (108, .aload_n 0, 1, 0), (109, .getfield 84, 3, 0), (112, .getfield 236, 3, 0), (115, .ireturn, 1, 0)], [(57, 11, 9, 2), (67, 11, 11, 2), (84, 11, 15, 4), (101, 3, 2, 0), (108, 8, 0, 4), (236, 8, 8, 0)], [(98, 0, 1, 0, f_St_startFrom), (205, 1, 1, 1, f_Ji_bitCount), (229, 0, 2, 1, f_Ln_play), (233, 0, 0, 1, f_Rw_visible)], [], [], [(0, [0, 1]), (27, [0, 1, 2, 3])], [(67, [(0, 92), (1, 94)], 108)], 2)
def f_Ls_judged : mm_F := fun args h => mm_ga [1, 1] args (mm_gd 11 args h (mm_run p_Ls_judged (mm_fu + 1) 0 args [] h))
set_option maxRecDepth 100000 in
theorem e_Ls_judged_0 (f : Nat) (t : Nat) (v1 : Int32) (h : mm_H) : mm_run p_Ls_judged (f + 1) 0 [.ref t, .int v1] [] h =
  if v1 < 0 then
    some (some (.int (-2)), h)
  else
    if (2 : Int32) < v1 then
      some (some (.int (-2)), h)
    else
      (mm_gr 11 15 h t).bind fun r1 =>
      (mm_gr 11 9 h t).bind fun r2 =>
      mm_cv (f_St_startFrom [.ref r1, .ref r2] h) fun h3 =>
      mm_run p_Ls_judged f 27 [.ref t, .int v1, .int (-1), .int 0] [] h3 := rfl
theorem e_Ls_judged (t : Nat) (v1 : Int32) (h : mm_H) {fs : List Value} (hb : h t = some (.inr (11, fs))) : f_Ls_judged [.ref t, .int v1] h =
  if v1 < 0 then
    some (some (.int (-2)), h)
  else
    if (2 : Int32) < v1 then
      some (some (.int (-2)), h)
    else
      (mm_gr 11 15 h t).bind fun r1 =>
      (mm_gr 11 9 h t).bind fun r2 =>
      mm_cv (f_St_startFrom [.ref r1, .ref r2] h) fun h3 =>
      mm_run p_Ls_judged mm_fu 27 [.ref t, .int v1, .int (-1), .int 0] [] h3 := (mm_ga_is rfl).trans ((mm_gd_is hb).trans (e_Ls_judged_0 mm_fu t v1 h))
set_option maxRecDepth 100000 in
theorem e_Ls_judged_27 (f : Nat) (t : Nat) (v1 : Int32) (v2 : Int32) (v3 : Int32) (h : mm_H) : mm_run p_Ls_judged (f + 1) 27 [.ref t, .int v1, .int v2, .int v3] [] h =
  (mm_gr 11 11 h t).bind fun r1 =>
  (mm_gi 3 2 h r1).bind fun x2 =>
  if v3 < x2 then
    (mm_gr 11 11 h t).bind fun r3 =>
    (mm_gr 11 15 h t).bind fun r4 =>
    mm_ci (f_Ln_play [.ref r3, .int v3, .ref r4] h) fun x6 h5 =>
    if x6 = 0 then
      if v2 = (-1) then
        mm_run p_Ls_judged f 27 [.ref t, .int v1, .int v3, .int (v3 + 1)] [] h5
      else
        mm_run p_Ls_judged f 27 [.ref t, .int v1, .int v2, .int (v3 + 1)] [] h5
    else
      mm_run p_Ls_judged f 27 [.ref t, .int v1, .int v2, .int (v3 + 1)] [] h5
  else
    if v1 = 0 then
      some (some (.int v2), h)
    else if v1 = 1 then
      (mm_gr 11 15 h t).bind fun r7 =>
      (mm_gr 8 0 h r7).bind fun r8 =>
      mm_ci (f_Rw_visible [.ref r8] h) fun x10 h9 =>
      mm_ci (f_Ji_bitCount [.int x10] h9) fun x12 h11 =>
      some (some (.int x12), h11)
    else 
      (mm_gr 11 15 h t).bind fun r13 =>
      (mm_gi 8 8 h r13).bind fun x14 =>
      some (some (.int x14), h) := rfl
set_option maxRecDepth 100000 in
theorem i_Ls_judged (l : Launch) : mm_Imp l yX11_judged cX11_judged 4 (some .int) 7 f_Ls_judged := mm_imp l (P := p_Ls_judged) mm_cls_ok mm_sys_ok (by decide) (mm_Pok_of (List.forall_mem_cons.mpr ⟨k_X11_57, (List.forall_mem_cons.mpr ⟨k_X11_67, (List.forall_mem_cons.mpr ⟨k_X11_84, (List.forall_mem_cons.mpr ⟨k_X11_101, (List.forall_mem_cons.mpr ⟨k_X11_108, (List.forall_mem_cons.mpr ⟨k_X11_236, (fun _ h => absurd h List.not_mem_nil)⟩)⟩)⟩)⟩)⟩)⟩) (List.forall_mem_cons.mpr ⟨v_St_startFrom l q_847 (by decide), (List.forall_mem_cons.mpr ⟨v_Ji_bitCount l (Or.inl q_1222) (by decide), (List.forall_mem_cons.mpr ⟨v_Ln_play l q_1320 (by decide), (List.forall_mem_cons.mpr ⟨v_Rw_visible l q_1337 (by decide), (fun _ h => absurd h List.not_mem_nil)⟩)⟩)⟩)⟩) (fun _ h => absurd h List.not_mem_nil) (fun _ h => absurd h List.not_mem_nil)) (by decide +kernel) rfl (cats := [1, 1]) (fun as h r e => ⟨(mm_ga_inv e).1, (mm_gd_inv (mm_ga_inv e).2).1⟩) rfl (by decide)
theorem v_Ls_judged (l : Launch) {own : String} {i n0 : Nat} (hl : Cond.methodLink own i yX11_judged ∈ mm_tbl) (hn : 8 ≤ n0) : mm_cok l own n0 i (0, 1, 1, f_Ls_judged) := Or.inr (Or.inr ⟨rfl, yX11_judged, cX11_judged, 4, (some .int), 7, 11, TX11, 16, i_Ls_judged l, hn, by decide, by decide +kernel, rfl, fun _ _ _ e => (mm_gd_inv (mm_ga_inv e).2).2, hl, q_1317, q_1318, q_163, q_1319⟩)
def p_Ls_found : mm_P := ([(0, .aload_n 0, 1, 0), (1, .iload_n 1, 1, 0), (2, .invokevirtual 132, 3, 0), (5, .ifCond .ne 5, 3, 0), (8, .iconst (-1), 1, (-1)), (9, .ireturn, 1, 0), (10, .aload_n 0, 1, 0), (11, .getfield 77, 3, 0), (14, .getfield 108, 3, 0), (17, .aload_n 0, 1, 0), (18, .getfield 57, 3, 0), (21, .getfield 143, 3, 0), (24, .iload_n 1, 1, 0), (25, .iaload, 1, 0), (26, .iload_n 2, 1, 0), (27, .invokevirtual 239, 3, 0), (30, .aload_n 0, 1, 0), (31, .getfield 77, 3, 0), (34, .iload_n 1, 1, 0), (35, .invokevirtual 242, 3, 0), (38, .iand, 1, 0), (39, .ireturn, 1, 0)], [(57, 11, 9, 2), (77, 11, 13, 2), (108, 8, 0, 4), (143, 4, 1, 4)], [(132, 0, 1, 1, f_Ls_isIndex), (239, 0, 2, 1, f_Rw_having), (242, 0, 1, 1, f_St_readable)], [], [], [(0, [0, 1, 2])], [], 2)
def f_Ls_found : mm_F := fun args h => mm_ga [1, 1, 1] args (mm_gd 11 args h (mm_run p_Ls_found (mm_fu + 1) 0 args [] h))
set_option maxRecDepth 100000 in
theorem e_Ls_found_0 (f : Nat) (t : Nat) (v1 : Int32) (v2 : Int32) (h : mm_H) : mm_run p_Ls_found (f + 1) 0 [.ref t, .int v1, .int v2] [] h =
  mm_ci (f_Ls_isIndex [.ref t, .int v1] h) fun x2 h1 =>
  if x2 = 0 then
    some (some (.int (-1)), h1)
  else
    (mm_gr 11 13 h1 t).bind fun r3 =>
    (mm_gr 8 0 h1 r3).bind fun r4 =>
    (mm_gr 11 9 h1 t).bind fun r5 =>
    (mm_gr 4 1 h1 r5).bind fun r6 =>
    (mm_li h1 r6 v1).bind fun x7 =>
    mm_ci (f_Rw_having [.ref r4, .int x7, .int v2] h1) fun x9 h8 =>
    (mm_gr 11 13 h8 t).bind fun r10 =>
    mm_ci (f_St_readable [.ref r10, .int v1] h8) fun x12 h11 =>
    some (some (.int (x9 &&& x12)), h11) := rfl
theorem e_Ls_found (t : Nat) (v1 : Int32) (v2 : Int32) (h : mm_H) {fs : List Value} (hb : h t = some (.inr (11, fs))) : f_Ls_found [.ref t, .int v1, .int v2] h =
  mm_ci (f_Ls_isIndex [.ref t, .int v1] h) fun x2 h1 =>
  if x2 = 0 then
    some (some (.int (-1)), h1)
  else
    (mm_gr 11 13 h1 t).bind fun r3 =>
    (mm_gr 8 0 h1 r3).bind fun r4 =>
    (mm_gr 11 9 h1 t).bind fun r5 =>
    (mm_gr 4 1 h1 r5).bind fun r6 =>
    (mm_li h1 r6 v1).bind fun x7 =>
    mm_ci (f_Rw_having [.ref r4, .int x7, .int v2] h1) fun x9 h8 =>
    (mm_gr 11 13 h8 t).bind fun r10 =>
    mm_ci (f_St_readable [.ref r10, .int v1] h8) fun x12 h11 =>
    some (some (.int (x9 &&& x12)), h11) := (mm_ga_is rfl).trans ((mm_gd_is hb).trans (e_Ls_found_0 mm_fu t v1 v2 h))
set_option maxRecDepth 100000 in
theorem i_Ls_found (l : Launch) : mm_Imp l yX11_found cX11_found 3 (some .int) 6 f_Ls_found := mm_imp l (P := p_Ls_found) mm_cls_ok mm_sys_ok (by decide) (mm_Pok_of (List.forall_mem_cons.mpr ⟨k_X11_57, (List.forall_mem_cons.mpr ⟨k_X11_77, (List.forall_mem_cons.mpr ⟨k_X11_108, (List.forall_mem_cons.mpr ⟨k_X11_143, (fun _ h => absurd h List.not_mem_nil)⟩)⟩)⟩)⟩) (List.forall_mem_cons.mpr ⟨v_Ls_isIndex l q_974 (by decide), (List.forall_mem_cons.mpr ⟨v_Rw_having l q_1342 (by decide), (List.forall_mem_cons.mpr ⟨v_St_readable l q_1343 (by decide), (fun _ h => absurd h List.not_mem_nil)⟩)⟩)⟩) (fun _ h => absurd h List.not_mem_nil) (fun _ h => absurd h List.not_mem_nil)) (by decide +kernel) rfl (cats := [1, 1, 1]) (fun as h r e => ⟨(mm_ga_inv e).1, (mm_gd_inv (mm_ga_inv e).2).1⟩) rfl (by decide)
theorem v_Ls_found (l : Launch) {own : String} {i n0 : Nat} (hl : Cond.methodLink own i yX11_found ∈ mm_tbl) (hn : 7 ≤ n0) : mm_cok l own n0 i (0, 2, 1, f_Ls_found) := Or.inr (Or.inr ⟨rfl, yX11_found, cX11_found, 3, (some .int), 6, 11, TX11, 16, i_Ls_found l, hn, by decide, by decide +kernel, rfl, fun _ _ _ e => (mm_gd_inv (mm_ga_inv e).2).2, hl, q_1339, q_1340, q_163, q_1341⟩)
def p_Ls_open : mm_P := ([(0, .aload_n 0, 1, 0), (1, .iload_n 1, 1, 0), (2, .invokevirtual 132, 3, 0), (5, .ifCond .ne 5, 3, 0), (8, .iconst 0, 1, 0), (9, .ireturn, 1, 0), (10, .aload_n 0, 1, 0), (11, .iload_n 1, 1, 0), (12, .putfield 45, 3, 0), (15, .aload_n 0, 1, 0), (16, .iload_n 2, 1, 0), (17, .putfield 48, 3, 0), (20, .aload_n 0, 1, 0), (21, .iconst (-1), 1, (-1)), (22, .putfield 51, 3, 0), (25, .iconst 1, 1, 1), (26, .ireturn, 1, 0)], [(45, 11, 6, 0), (48, 11, 7, 0), (51, 11, 8, 0)], [(132, 0, 1, 1, f_Ls_isIndex)], [], [], [(0, [0, 1, 2])], [], 1)
def f_Ls_open : mm_F := fun args h => mm_ga [1, 1, 1] args (mm_gd 11 args h (mm_run p_Ls_open (mm_fu + 1) 0 args [] h))
set_option maxRecDepth 100000 in
theorem e_Ls_open_0 (f : Nat) (t : Nat) (v1 : Int32) (v2 : Int32) (h : mm_H) : mm_run p_Ls_open (f + 1) 0 [.ref t, .int v1, .int v2] [] h =
  mm_ci (f_Ls_isIndex [.ref t, .int v1] h) fun x2 h1 =>
  if x2 = 0 then
    some (some (.int 0), h1)
  else
    (mm_pf 11 6 (.int v1) h1 t).bind fun h3 =>
    (mm_pf 11 7 (.int v2) h3 t).bind fun h4 =>
    (mm_pf 11 8 (.int (-1)) h4 t).bind fun h5 =>
    some (some (.int 1), h5) := rfl
theorem e_Ls_open (t : Nat) (v1 : Int32) (v2 : Int32) (h : mm_H) {fs : List Value} (hb : h t = some (.inr (11, fs))) : f_Ls_open [.ref t, .int v1, .int v2] h =
  mm_ci (f_Ls_isIndex [.ref t, .int v1] h) fun x2 h1 =>
  if x2 = 0 then
    some (some (.int 0), h1)
  else
    (mm_pf 11 6 (.int v1) h1 t).bind fun h3 =>
    (mm_pf 11 7 (.int v2) h3 t).bind fun h4 =>
    (mm_pf 11 8 (.int (-1)) h4 t).bind fun h5 =>
    some (some (.int 1), h5) := (mm_ga_is rfl).trans ((mm_gd_is hb).trans (e_Ls_open_0 mm_fu t v1 v2 h))
set_option maxRecDepth 100000 in
theorem i_Ls_open (l : Launch) : mm_Imp l yX11_open cX11_open 3 (some .boolean) 2 f_Ls_open := mm_imp l (P := p_Ls_open) mm_cls_ok mm_sys_ok (by decide) (mm_Pok_of (List.forall_mem_cons.mpr ⟨k_X11_45, (List.forall_mem_cons.mpr ⟨k_X11_48, (List.forall_mem_cons.mpr ⟨k_X11_51, (fun _ h => absurd h List.not_mem_nil)⟩)⟩)⟩) (List.forall_mem_cons.mpr ⟨v_Ls_isIndex l q_974 (by decide), (fun _ h => absurd h List.not_mem_nil)⟩) (fun _ h => absurd h List.not_mem_nil) (fun _ h => absurd h List.not_mem_nil)) (by decide +kernel) rfl (cats := [1, 1, 1]) (fun as h r e => ⟨(mm_ga_inv e).1, (mm_gd_inv (mm_ga_inv e).2).1⟩) rfl (by decide)
theorem v_Ls_open (l : Launch) {own : String} {i n0 : Nat} (hl : Cond.methodLink own i yX11_open ∈ mm_tbl) (hn : 3 ≤ n0) : mm_cok l own n0 i (0, 2, 1, f_Ls_open) := Or.inr (Or.inr ⟨rfl, yX11_open, cX11_open, 3, (some .boolean), 2, 11, TX11, 16, i_Ls_open l, hn, by decide, by decide +kernel, rfl, fun _ _ _ e => (mm_gd_inv (mm_ga_inv e).2).2, hl, q_1352, q_1353, q_163, q_1354⟩)
def p_Ls_isAheadOfKey : mm_P := ([(0, .aload_n 0, 1, 0), (1, .getfield 77, 3, 0), (4, .getfield 108, 3, 0), (7, .iload_n 1, 1, 0), (8, .aload_n 0, 1, 0), (9, .getfield 57, 3, 0), (12, .getfield 143, 3, 0), (15, .aload_n 0, 1, 0), (16, .getfield 45, 3, 0), (19, .iaload, 1, 0), (20, .invokevirtual 118, 3, 0), (23, .istore_n 2, 1, 0), (24, .aload_n 0, 1, 0), (25, .getfield 57, 3, 0), (28, .getfield 139, 3, 0), (31, .aload_n 0, 1, 0), (32, .getfield 45, 3, 0), (35, .iaload, 1, 0), (36, .iconst 1, 1, 1), (37, .if_icmp .ne 19, 3, 0), (40, .iload_n 2, 1, 0), (41, .aload_n 0, 1, 0), (42, .getfield 48, 3, 0), (45, .if_icmp .le 7, 3, 0), (48, .iconst 1, 1, 1), (49, .goto 20, 3, 0), (52, .iconst 0, 1, 0), (53, .goto 16, 3, 0), (56, .iload_n 2, 1, 0), (57, .aload_n 0, 1, 0), (58, .getfield 48, 3, 0), (61, .if_icmp .ge 7, 3, 0), (64, .iconst 1, 1, 1), (65, .goto 4, 3, 0), (68, .iconst 0, 1, 0), (69, .ireturn, 1, 0)], [(45, 11, 6, 0), (48, 11, 7, 0), (57, 11, 9, 2), (77, 11, 13, 2), (108, 8, 0, 4), (139, 4, 0, 4), (143, 4, 1, 4)], [(118, 0, 2, 1, f_Rw_valueOf)], [], [], [(0, [0, 1])], [], 1)
def f_Ls_isAheadOfKey : mm_F := fun args h => mm_ga [1, 1] args (mm_gd 11 args h (mm_run p_Ls_isAheadOfKey (mm_fu + 1) 0 args [] h))
set_option maxRecDepth 100000 in
theorem e_Ls_isAheadOfKey_0 (f : Nat) (t : Nat) (v1 : Int32) (h : mm_H) : mm_run p_Ls_isAheadOfKey (f + 1) 0 [.ref t, .int v1] [] h =
  (mm_gr 11 13 h t).bind fun r1 =>
  (mm_gr 8 0 h r1).bind fun r2 =>
  (mm_gr 11 9 h t).bind fun r3 =>
  (mm_gr 4 1 h r3).bind fun r4 =>
  (mm_gi 11 6 h t).bind fun x5 =>
  (mm_li h r4 x5).bind fun x6 =>
  mm_ci (f_Rw_valueOf [.ref r2, .int v1, .int x6] h) fun x8 h7 =>
  (mm_gr 11 9 h7 t).bind fun r9 =>
  (mm_gr 4 0 h7 r9).bind fun r10 =>
  (mm_gi 11 6 h7 t).bind fun x11 =>
  (mm_li h7 r10 x11).bind fun x12 =>
  if x12 = 1 then
    (mm_gi 11 7 h7 t).bind fun x13 =>
    if x13 < x8 then
      some (some (.int 1), h7)
    else
      some (some (.int 0), h7)
  else
    (mm_gi 11 7 h7 t).bind fun x14 =>
    if x8 < x14 then
      some (some (.int 1), h7)
    else
      some (some (.int 0), h7) := rfl
theorem e_Ls_isAheadOfKey (t : Nat) (v1 : Int32) (h : mm_H) {fs : List Value} (hb : h t = some (.inr (11, fs))) : f_Ls_isAheadOfKey [.ref t, .int v1] h =
  (mm_gr 11 13 h t).bind fun r1 =>
  (mm_gr 8 0 h r1).bind fun r2 =>
  (mm_gr 11 9 h t).bind fun r3 =>
  (mm_gr 4 1 h r3).bind fun r4 =>
  (mm_gi 11 6 h t).bind fun x5 =>
  (mm_li h r4 x5).bind fun x6 =>
  mm_ci (f_Rw_valueOf [.ref r2, .int v1, .int x6] h) fun x8 h7 =>
  (mm_gr 11 9 h7 t).bind fun r9 =>
  (mm_gr 4 0 h7 r9).bind fun r10 =>
  (mm_gi 11 6 h7 t).bind fun x11 =>
  (mm_li h7 r10 x11).bind fun x12 =>
  if x12 = 1 then
    (mm_gi 11 7 h7 t).bind fun x13 =>
    if x13 < x8 then
      some (some (.int 1), h7)
    else
      some (some (.int 0), h7)
  else
    (mm_gi 11 7 h7 t).bind fun x14 =>
    if x8 < x14 then
      some (some (.int 1), h7)
    else
      some (some (.int 0), h7) := (mm_ga_is rfl).trans ((mm_gd_is hb).trans (e_Ls_isAheadOfKey_0 mm_fu t v1 h))
set_option maxRecDepth 100000 in
theorem i_Ls_isAheadOfKey (l : Launch) : mm_Imp l yX11_isAheadOfKey cX11_isAheadOfKey 3 (some .boolean) 2 f_Ls_isAheadOfKey := mm_imp l (P := p_Ls_isAheadOfKey) mm_cls_ok mm_sys_ok (by decide) (mm_Pok_of (List.forall_mem_cons.mpr ⟨k_X11_45, (List.forall_mem_cons.mpr ⟨k_X11_48, (List.forall_mem_cons.mpr ⟨k_X11_57, (List.forall_mem_cons.mpr ⟨k_X11_77, (List.forall_mem_cons.mpr ⟨k_X11_108, (List.forall_mem_cons.mpr ⟨k_X11_139, (List.forall_mem_cons.mpr ⟨k_X11_143, (fun _ h => absurd h List.not_mem_nil)⟩)⟩)⟩)⟩)⟩)⟩)⟩) (List.forall_mem_cons.mpr ⟨v_Rw_valueOf l q_961 (by decide), (fun _ h => absurd h List.not_mem_nil)⟩) (fun _ h => absurd h List.not_mem_nil) (fun _ h => absurd h List.not_mem_nil)) (by decide +kernel) rfl (cats := [1, 1]) (fun as h r e => ⟨(mm_ga_inv e).1, (mm_gd_inv (mm_ga_inv e).2).1⟩) rfl (by decide)
theorem v_Ls_isAheadOfKey (l : Launch) {own : String} {i n0 : Nat} (hl : Cond.methodLink own i yX11_isAheadOfKey ∈ mm_tbl) (hn : 3 ≤ n0) : mm_cok l own n0 i (0, 1, 1, f_Ls_isAheadOfKey) := Or.inr (Or.inr ⟨rfl, yX11_isAheadOfKey, cX11_isAheadOfKey, 3, (some .boolean), 2, 11, TX11, 16, i_Ls_isAheadOfKey l, hn, by decide, by decide +kernel, rfl, fun _ _ _ e => (mm_gd_inv (mm_ga_inv e).2).2, hl, q_1365, q_44, q_163, q_1366⟩)
def p_Ls_fetch : mm_P := ([(0, .aload_n 0, 1, 0), (1, .aload_n 0, 1, 0), (2, .getfield 45, 3, 0), (5, .invokevirtual 132, 3, 0), (8, .ifCond .ne 5, 3, 0), (11, .iconst (-1), 1, (-1)), (12, .ireturn, 1, 0), (13, .aload_n 0, 1, 0), (14, .getfield 77, 3, 0), (17, .aload_n 0, 1, 0), (18, .getfield 45, 3, 0), (21, .invokevirtual 242, 3, 0), (24, .istore_n 1, 1, 0), (25, .iconst (-1), 1, (-1)), (26, .istore_n 2, 1, 0), (27, .iconst 0, 1, 0), (28, .istore_n 3, 1, 0), (29, .iload_n 3, 1, 0), (30, .aload_n 0, 1, 0), (31, .getfield 77, 3, 0), (34, .getfield 108, 3, 0), (37, .getfield 245, 3, 0), (40, .if_icmp .ge 74, 3, 0), (43, .aload_n 0, 1, 0), (44, .getfield 77, 3, 0), (47, .aload_n 0, 1, 0), (48, .getfield 45, 3, 0), (51, .iload_n 3, 1, 0), (52, .invokevirtual 248, 3, 0), (55, .istore 4, 2, 0), (57, .iload_n 1, 1, 0), (58, .iload_n 3, 1, 0), (59, .ishr, 1, 0), (60, .iconst 1, 1, 1), (61, .iand, 1, 0), (62, .ifCond .eq 24, 3, 0), (65, .iload 4, 2, 0), (67, .aload_n 0, 1, 0), (68, .getfield 51, 3, 0), (71, .if_icmp .le 15, 3, 0), (74, .aload_n 0, 1, 0), (75, .iload_n 3, 1, 0), (76, .invokevirtual 251, 3, 0), (79, .ifCond .ne 7, 3, 0), (82, .iconst 1, 1, 1), (83, .goto 4, 3, 0), (86, .iconst 0, 1, 0), (87, .istore 5, 2, 0), (89, .iload 5, 2, 0), (91, .ifCond .eq 17, 3, 0), (94, .iload_n 2, 1, 0), (95, .iconst (-1), 1, (-1)), (96, .if_icmp .eq 9, 3, 0), (99, .iload 4, 2, 0), (101, .iload_n 2, 1, 0), (102, .if_icmp .ge 6, 3, 0), (105, .iload 4, 2, 0), (107, .istore_n 2, 1, 0), (108, .iinc 3 1, 3, 1), (111, .goto (-82), 3, 0), (114, .iload_n 2, 1, 0), (115, .iconst (-1), 1, (-1)), (116, .if_icmp .ne 5, 3, 0), (119, .iconst (-1), 1, (-1)), (120, .ireturn, 1, 0), (121, .aload_n 0, 1, 0), (122, .iload_n 2, 1, 0), (123, .putfield 51, 3, 0), (126, .iload_n 2, 1, 0), (127, .invokestatic 254, 3, 0), (130, .ireturn, 1, 0)], [(45, 11, 6, 0), (51, 11, 8, 0), (77, 11, 13, 2), (108, 8, 0, 4), (245, 7, 1, 0)], [(132, 0, 1, 1, f_Ls_isIndex), (242, 0, 1, 1, f_St_readable), (248, 0, 2, 1, f_St_codeOf), (251, 0, 1, 1, f_Ls_isAheadOfKey), (254, 1, 1, 1, f_Lv_rowIn)], [], [], [(0, [0]), (29, [0, 1, 2, 3])], [], 2)
def f_Ls_fetch : mm_F := fun args h => mm_ga [1] args (mm_gd 11 args h (mm_run p_Ls_fetch (mm_fu + 1) 0 args [] h))
set_option maxRecDepth 100000 in
theorem e_Ls_fetch_0 (f : Nat) (t : Nat) (h : mm_H) : mm_run p_Ls_fetch (f + 1) 0 [.ref t] [] h =
  (mm_gi 11 6 h t).bind fun x1 =>
  mm_ci (f_Ls_isIndex [.ref t, .int x1] h) fun x3 h2 =>
  if x3 = 0 then
    some (some (.int (-1)), h2)
  else
    (mm_gr 11 13 h2 t).bind fun r4 =>
    (mm_gi 11 6 h2 t).bind fun x5 =>
    mm_ci (f_St_readable [.ref r4, .int x5] h2) fun x7 h6 =>
    mm_run p_Ls_fetch f 29 [.ref t, .int x7, .int (-1), .int 0] [] h6 := rfl
theorem e_Ls_fetch (t : Nat) (h : mm_H) {fs : List Value} (hb : h t = some (.inr (11, fs))) : f_Ls_fetch [.ref t] h =
  (mm_gi 11 6 h t).bind fun x1 =>
  mm_ci (f_Ls_isIndex [.ref t, .int x1] h) fun x3 h2 =>
  if x3 = 0 then
    some (some (.int (-1)), h2)
  else
    (mm_gr 11 13 h2 t).bind fun r4 =>
    (mm_gi 11 6 h2 t).bind fun x5 =>
    mm_ci (f_St_readable [.ref r4, .int x5] h2) fun x7 h6 =>
    mm_run p_Ls_fetch mm_fu 29 [.ref t, .int x7, .int (-1), .int 0] [] h6 := (mm_ga_is rfl).trans ((mm_gd_is hb).trans (e_Ls_fetch_0 mm_fu t h))
set_option maxRecDepth 100000 in
theorem e_Ls_fetch_29 (f : Nat) (t : Nat) (v1 : Int32) (v2 : Int32) (v3 : Int32) (h : mm_H) : mm_run p_Ls_fetch (f + 1) 29 [.ref t, .int v1, .int v2, .int v3] [] h =
  (mm_gr 11 13 h t).bind fun r1 =>
  (mm_gr 8 0 h r1).bind fun r2 =>
  (mm_gi 7 1 h r2).bind fun x3 =>
  if v3 < x3 then
    (mm_gr 11 13 h t).bind fun r4 =>
    (mm_gi 11 6 h t).bind fun x5 =>
    mm_ci (f_St_codeOf [.ref r4, .int x5, .int v3] h) fun x7 h6 =>
    if ((v1 >>> (v3 &&& 31)) &&& 1) = 0 then
      mm_run p_Ls_fetch f 29 [.ref t, .int v1, .int v2, .int (v3 + 1)] [] h6
    else
      (mm_gi 11 8 h6 t).bind fun x8 =>
      if x8 < x7 then
        mm_ci (f_Ls_isAheadOfKey [.ref t, .int v3] h6) fun x10 h9 =>
        if x10 = 0 then
          if v2 = (-1) then
            mm_run p_Ls_fetch f 29 [.ref t, .int v1, .int x7, .int (v3 + 1)] [] h9
          else
            if x7 < v2 then
              mm_run p_Ls_fetch f 29 [.ref t, .int v1, .int x7, .int (v3 + 1)] [] h9
            else
              mm_run p_Ls_fetch f 29 [.ref t, .int v1, .int v2, .int (v3 + 1)] [] h9
        else
          mm_run p_Ls_fetch f 29 [.ref t, .int v1, .int v2, .int (v3 + 1)] [] h9
      else
        mm_run p_Ls_fetch f 29 [.ref t, .int v1, .int v2, .int (v3 + 1)] [] h6
  else
    if v2 = (-1) then
      some (some (.int (-1)), h)
    else
      (mm_pf 11 8 (.int v2) h t).bind fun h11 =>
      mm_ci (f_Lv_rowIn [.int v2] h11) fun x13 h12 =>
      some (some (.int x13), h12) := rfl
set_option maxRecDepth 100000 in
theorem i_Ls_fetch (l : Launch) : mm_Imp l yX11_fetch cX11_fetch 6 (some .int) 6 f_Ls_fetch := mm_imp l (P := p_Ls_fetch) mm_cls_ok mm_sys_ok (by decide) (mm_Pok_of (List.forall_mem_cons.mpr ⟨k_X11_45, (List.forall_mem_cons.mpr ⟨k_X11_51, (List.forall_mem_cons.mpr ⟨k_X11_77, (List.forall_mem_cons.mpr ⟨k_X11_108, (List.forall_mem_cons.mpr ⟨k_X11_245, (fun _ h => absurd h List.not_mem_nil)⟩)⟩)⟩)⟩)⟩) (List.forall_mem_cons.mpr ⟨v_Ls_isIndex l q_974 (by decide), (List.forall_mem_cons.mpr ⟨v_St_readable l q_1343 (by decide), (List.forall_mem_cons.mpr ⟨v_St_codeOf l q_1359 (by decide), (List.forall_mem_cons.mpr ⟨v_Ls_isAheadOfKey l q_1363 (by decide), (List.forall_mem_cons.mpr ⟨v_Lv_rowIn l (Or.inl q_1367) (by decide), (fun _ h => absurd h List.not_mem_nil)⟩)⟩)⟩)⟩)⟩) (fun _ h => absurd h List.not_mem_nil) (fun _ h => absurd h List.not_mem_nil)) (by decide +kernel) rfl (cats := [1]) (fun as h r e => ⟨(mm_ga_inv e).1, (mm_gd_inv (mm_ga_inv e).2).1⟩) rfl (by decide)
theorem v_Ls_fetch (l : Launch) {own : String} {i n0 : Nat} (hl : Cond.methodLink own i yX11_fetch ∈ mm_tbl) (hn : 7 ≤ n0) : mm_cok l own n0 i (0, 0, 1, f_Ls_fetch) := Or.inr (Or.inr ⟨rfl, yX11_fetch, cX11_fetch, 6, (some .int), 6, 11, TX11, 16, i_Ls_fetch l, hn, by decide, by decide +kernel, rfl, fun _ _ _ e => (mm_gd_inv (mm_ga_inv e).2).2, hl, q_1356, q_1357, q_163, q_1358⟩)
def p_Ls_skips : mm_P := ([(0, .aload_n 0, 1, 0), (1, .iload_n 1, 1, 0), (2, .invokevirtual 132, 3, 0), (5, .ifCond .ne 5, 3, 0), (8, .iconst (-1), 1, (-1)), (9, .ireturn, 1, 0), (10, .aload_n 0, 1, 0), (11, .getfield 77, 3, 0), (14, .getfield 135, 3, 0), (17, .iload_n 1, 1, 0), (18, .aaload, 1, 0), (19, .iload_n 2, 1, 0), (20, .aload_n 0, 1, 0), (21, .getfield 77, 3, 0), (24, .getfield 108, 3, 0), (27, .getfield 125, 3, 0), (30, .aload_n 0, 1, 0), (31, .getfield 77, 3, 0), (34, .iload_n 1, 1, 0), (35, .invokevirtual 264, 3, 0), (38, .ior, 1, 0), (39, .invokevirtual 267, 3, 0), (42, .ireturn, 1, 0)], [(77, 11, 13, 2), (108, 8, 0, 4), (125, 7, 3, 0), (135, 8, 2, 4)], [(132, 0, 1, 1, f_Ls_isIndex), (264, 0, 1, 1, f_St_staleRows), (267, 0, 2, 1, f_Lv_withValue)], [], [], [(0, [0, 1, 2])], [], 2)
def f_Ls_skips : mm_F := fun args h => mm_ga [1, 1, 1] args (mm_gd 11 args h (mm_run p_Ls_skips (mm_fu + 1) 0 args [] h))
set_option maxRecDepth 100000 in
theorem e_Ls_skips_0 (f : Nat) (t : Nat) (v1 : Int32) (v2 : Int32) (h : mm_H) : mm_run p_Ls_skips (f + 1) 0 [.ref t, .int v1, .int v2] [] h =
  mm_ci (f_Ls_isIndex [.ref t, .int v1] h) fun x2 h1 =>
  if x2 = 0 then
    some (some (.int (-1)), h1)
  else
    (mm_gr 11 13 h1 t).bind fun r3 =>
    (mm_gr 8 2 h1 r3).bind fun r4 =>
    (mm_lr h1 r4 v1).bind fun r5 =>
    (mm_gr 11 13 h1 t).bind fun r6 =>
    (mm_gr 8 0 h1 r6).bind fun r7 =>
    (mm_gi 7 3 h1 r7).bind fun x8 =>
    (mm_gr 11 13 h1 t).bind fun r9 =>
    mm_ci (f_St_staleRows [.ref r9, .int v1] h1) fun x11 h10 =>
    mm_ci (f_Lv_withValue [.ref r5, .int v2, .int (x8 ||| x11)] h10) fun x13 h12 =>
    some (some (.int x13), h12) := rfl
theorem e_Ls_skips (t : Nat) (v1 : Int32) (v2 : Int32) (h : mm_H) {fs : List Value} (hb : h t = some (.inr (11, fs))) : f_Ls_skips [.ref t, .int v1, .int v2] h =
  mm_ci (f_Ls_isIndex [.ref t, .int v1] h) fun x2 h1 =>
  if x2 = 0 then
    some (some (.int (-1)), h1)
  else
    (mm_gr 11 13 h1 t).bind fun r3 =>
    (mm_gr 8 2 h1 r3).bind fun r4 =>
    (mm_lr h1 r4 v1).bind fun r5 =>
    (mm_gr 11 13 h1 t).bind fun r6 =>
    (mm_gr 8 0 h1 r6).bind fun r7 =>
    (mm_gi 7 3 h1 r7).bind fun x8 =>
    (mm_gr 11 13 h1 t).bind fun r9 =>
    mm_ci (f_St_staleRows [.ref r9, .int v1] h1) fun x11 h10 =>
    mm_ci (f_Lv_withValue [.ref r5, .int v2, .int (x8 ||| x11)] h10) fun x13 h12 =>
    some (some (.int x13), h12) := (mm_ga_is rfl).trans ((mm_gd_is hb).trans (e_Ls_skips_0 mm_fu t v1 v2 h))
set_option maxRecDepth 100000 in
theorem i_Ls_skips (l : Launch) : mm_Imp l yX11_skips cX11_skips 3 (some .int) 6 f_Ls_skips := mm_imp l (P := p_Ls_skips) mm_cls_ok mm_sys_ok (by decide) (mm_Pok_of (List.forall_mem_cons.mpr ⟨k_X11_77, (List.forall_mem_cons.mpr ⟨k_X11_108, (List.forall_mem_cons.mpr ⟨k_X11_125, (List.forall_mem_cons.mpr ⟨k_X11_135, (fun _ h => absurd h List.not_mem_nil)⟩)⟩)⟩)⟩) (List.forall_mem_cons.mpr ⟨v_Ls_isIndex l q_974 (by decide), (List.forall_mem_cons.mpr ⟨v_St_staleRows l q_1372 (by decide), (List.forall_mem_cons.mpr ⟨v_Lv_withValue l q_1378 (by decide), (fun _ h => absurd h List.not_mem_nil)⟩)⟩)⟩) (fun _ h => absurd h List.not_mem_nil) (fun _ h => absurd h List.not_mem_nil)) (by decide +kernel) rfl (cats := [1, 1, 1]) (fun as h r e => ⟨(mm_ga_inv e).1, (mm_gd_inv (mm_ga_inv e).2).1⟩) rfl (by decide)
theorem v_Ls_skips (l : Launch) {own : String} {i n0 : Nat} (hl : Cond.methodLink own i yX11_skips ∈ mm_tbl) (hn : 7 ≤ n0) : mm_cok l own n0 i (0, 2, 1, f_Ls_skips) := Or.inr (Or.inr ⟨rfl, yX11_skips, cX11_skips, 3, (some .int), 6, 11, TX11, 16, i_Ls_skips l, hn, by decide, by decide +kernel, rfl, fun _ _ _ e => (mm_gd_inv (mm_ga_inv e).2).2, hl, q_1369, q_1370, q_163, q_1371⟩)
def p_Ls_stale : mm_P := ([(0, .aload_n 0, 1, 0), (1, .iload_n 1, 1, 0), (2, .invokevirtual 132, 3, 0), (5, .ifCond .eq 14, 3, 0), (8, .aload_n 0, 1, 0), (9, .getfield 77, 3, 0), (12, .iload_n 1, 1, 0), (13, .invokevirtual 264, 3, 0), (16, .goto 4, 3, 0), (19, .iconst (-1), 1, (-1)), (20, .ireturn, 1, 0)], [(77, 11, 13, 2)], [(132, 0, 1, 1, f_Ls_isIndex), (264, 0, 1, 1, f_St_staleRows)], [], [], [(0, [0, 1])], [], 2)
def f_Ls_stale : mm_F := fun args h => mm_ga [1, 1] args (mm_gd 11 args h (mm_run p_Ls_stale (mm_fu + 1) 0 args [] h))
set_option maxRecDepth 100000 in
theorem e_Ls_stale_0 (f : Nat) (t : Nat) (v1 : Int32) (h : mm_H) : mm_run p_Ls_stale (f + 1) 0 [.ref t, .int v1] [] h =
  mm_ci (f_Ls_isIndex [.ref t, .int v1] h) fun x2 h1 =>
  if x2 = 0 then
    some (some (.int (-1)), h1)
  else
    (mm_gr 11 13 h1 t).bind fun r3 =>
    mm_ci (f_St_staleRows [.ref r3, .int v1] h1) fun x5 h4 =>
    some (some (.int x5), h4) := rfl
theorem e_Ls_stale (t : Nat) (v1 : Int32) (h : mm_H) {fs : List Value} (hb : h t = some (.inr (11, fs))) : f_Ls_stale [.ref t, .int v1] h =
  mm_ci (f_Ls_isIndex [.ref t, .int v1] h) fun x2 h1 =>
  if x2 = 0 then
    some (some (.int (-1)), h1)
  else
    (mm_gr 11 13 h1 t).bind fun r3 =>
    mm_ci (f_St_staleRows [.ref r3, .int v1] h1) fun x5 h4 =>
    some (some (.int x5), h4) := (mm_ga_is rfl).trans ((mm_gd_is hb).trans (e_Ls_stale_0 mm_fu t v1 h))
set_option maxRecDepth 100000 in
theorem i_Ls_stale (l : Launch) : mm_Imp l yX11_stale cX11_stale 2 (some .int) 6 f_Ls_stale := mm_imp l (P := p_Ls_stale) mm_cls_ok mm_sys_ok (by decide) (mm_Pok_of (List.forall_mem_cons.mpr ⟨k_X11_77, (fun _ h => absurd h List.not_mem_nil)⟩) (List.forall_mem_cons.mpr ⟨v_Ls_isIndex l q_974 (by decide), (List.forall_mem_cons.mpr ⟨v_St_staleRows l q_1372 (by decide), (fun _ h => absurd h List.not_mem_nil)⟩)⟩) (fun _ h => absurd h List.not_mem_nil) (fun _ h => absurd h List.not_mem_nil)) (by decide +kernel) rfl (cats := [1, 1]) (fun as h r e => ⟨(mm_ga_inv e).1, (mm_gd_inv (mm_ga_inv e).2).1⟩) rfl (by decide)
theorem v_Ls_stale (l : Launch) {own : String} {i n0 : Nat} (hl : Cond.methodLink own i yX11_stale ∈ mm_tbl) (hn : 7 ≤ n0) : mm_cok l own n0 i (0, 1, 1, f_Ls_stale) := Or.inr (Or.inr ⟨rfl, yX11_stale, cX11_stale, 2, (some .int), 6, 11, TX11, 16, i_Ls_stale l, hn, by decide, by decide +kernel, rfl, fun _ _ _ e => (mm_gd_inv (mm_ga_inv e).2).2, hl, q_1387, q_1388, q_163, q_1389⟩)
def p_Ls_missing : mm_P := ([(0, .aload_n 0, 1, 0), (1, .iload_n 1, 1, 0), (2, .invokevirtual 132, 3, 0), (5, .ifCond .eq 14, 3, 0), (8, .aload_n 0, 1, 0), (9, .getfield 77, 3, 0), (12, .iload_n 1, 1, 0), (13, .invokevirtual 270, 3, 0), (16, .goto 4, 3, 0), (19, .iconst (-1), 1, (-1)), (20, .ireturn, 1, 0)], [(77, 11, 13, 2)], [(132, 0, 1, 1, f_Ls_isIndex), (270, 0, 1, 1, f_St_missingRows)], [], [], [(0, [0, 1])], [], 2)
def f_Ls_missing : mm_F := fun args h => mm_ga [1, 1] args (mm_gd 11 args h (mm_run p_Ls_missing (mm_fu + 1) 0 args [] h))
set_option maxRecDepth 100000 in
theorem e_Ls_missing_0 (f : Nat) (t : Nat) (v1 : Int32) (h : mm_H) : mm_run p_Ls_missing (f + 1) 0 [.ref t, .int v1] [] h =
  mm_ci (f_Ls_isIndex [.ref t, .int v1] h) fun x2 h1 =>
  if x2 = 0 then
    some (some (.int (-1)), h1)
  else
    (mm_gr 11 13 h1 t).bind fun r3 =>
    mm_ci (f_St_missingRows [.ref r3, .int v1] h1) fun x5 h4 =>
    some (some (.int x5), h4) := rfl
theorem e_Ls_missing (t : Nat) (v1 : Int32) (h : mm_H) {fs : List Value} (hb : h t = some (.inr (11, fs))) : f_Ls_missing [.ref t, .int v1] h =
  mm_ci (f_Ls_isIndex [.ref t, .int v1] h) fun x2 h1 =>
  if x2 = 0 then
    some (some (.int (-1)), h1)
  else
    (mm_gr 11 13 h1 t).bind fun r3 =>
    mm_ci (f_St_missingRows [.ref r3, .int v1] h1) fun x5 h4 =>
    some (some (.int x5), h4) := (mm_ga_is rfl).trans ((mm_gd_is hb).trans (e_Ls_missing_0 mm_fu t v1 h))
set_option maxRecDepth 100000 in
theorem i_Ls_missing (l : Launch) : mm_Imp l yX11_missing cX11_missing 2 (some .int) 7 f_Ls_missing := mm_imp l (P := p_Ls_missing) mm_cls_ok mm_sys_ok (by decide) (mm_Pok_of (List.forall_mem_cons.mpr ⟨k_X11_77, (fun _ h => absurd h List.not_mem_nil)⟩) (List.forall_mem_cons.mpr ⟨v_Ls_isIndex l q_974 (by decide), (List.forall_mem_cons.mpr ⟨v_St_missingRows l q_1394 (by decide), (fun _ h => absurd h List.not_mem_nil)⟩)⟩) (fun _ h => absurd h List.not_mem_nil) (fun _ h => absurd h List.not_mem_nil)) (by decide +kernel) rfl (cats := [1, 1]) (fun as h r e => ⟨(mm_ga_inv e).1, (mm_gd_inv (mm_ga_inv e).2).1⟩) rfl (by decide)
theorem v_Ls_missing (l : Launch) {own : String} {i n0 : Nat} (hl : Cond.methodLink own i yX11_missing ∈ mm_tbl) (hn : 8 ≤ n0) : mm_cok l own n0 i (0, 1, 1, f_Ls_missing) := Or.inr (Or.inr ⟨rfl, yX11_missing, cX11_missing, 2, (some .int), 7, 11, TX11, 16, i_Ls_missing l, hn, by decide, by decide +kernel, rfl, fun _ _ _ e => (mm_gd_inv (mm_ga_inv e).2).2, hl, q_1391, q_1392, q_163, q_1393⟩)
def p_Ls_side : mm_P := ([(0, .aload_n 0, 1, 0), (1, .getfield 77, 3, 0), (4, .getfield 273, 3, 0), (7, .getfield 277, 3, 0), (10, .ifCond .eq 21, 3, 0), (13, .iload_n 1, 1, 0), (14, .ifCond .lt 17, 3, 0), (17, .iload_n 1, 1, 0), (18, .aload_n 0, 1, 0), (19, .getfield 77, 3, 0), (22, .getfield 273, 3, 0), (25, .getfield 283, 3, 0), (28, .if_icmp .lt 7, 3, 0), (31, .ldc_w 286, 3, 0), (34, .ireturn, 1, 0), (35, .aload_n 0, 1, 0), (36, .getfield 77, 3, 0), (39, .getfield 273, 3, 0), (42, .getfield 287, 3, 0), (45, .iload_n 1, 1, 0), (46, .iaload, 1, 0), (47, .ireturn, 1, 0)], [(77, 11, 13, 2), (273, 8, 3, 4), (277, 1, 3, 1), (283, 1, 10, 0), (287, 1, 1, 4)], [], [(286, -2147483648)], [], [(0, [0, 1])], [], 2)
def f_Ls_side : mm_F := fun args h => mm_ga [1, 1] args (mm_gd 11 args h (mm_run p_Ls_side (mm_fu + 1) 0 args [] h))
set_option maxRecDepth 100000 in
theorem e_Ls_side_0 (f : Nat) (t : Nat) (v1 : Int32) (h : mm_H) : mm_run p_Ls_side (f + 1) 0 [.ref t, .int v1] [] h =
  (mm_gr 11 13 h t).bind fun r1 =>
  (mm_gr 8 3 h r1).bind fun r2 =>
  (mm_gi 1 3 h r2).bind fun x3 =>
  if x3 = 0 then
    some (some (.int (-2147483648)), h)
  else
    if v1 < 0 then
      some (some (.int (-2147483648)), h)
    else
      (mm_gr 11 13 h t).bind fun r4 =>
      (mm_gr 8 3 h r4).bind fun r5 =>
      (mm_gi 1 10 h r5).bind fun x6 =>
      if v1 < x6 then
        (mm_gr 11 13 h t).bind fun r7 =>
        (mm_gr 8 3 h r7).bind fun r8 =>
        (mm_gr 1 1 h r8).bind fun r9 =>
        (mm_li h r9 v1).bind fun x10 =>
        some (some (.int x10), h)
      else
        some (some (.int (-2147483648)), h) := rfl
theorem e_Ls_side (t : Nat) (v1 : Int32) (h : mm_H) {fs : List Value} (hb : h t = some (.inr (11, fs))) : f_Ls_side [.ref t, .int v1] h =
  (mm_gr 11 13 h t).bind fun r1 =>
  (mm_gr 8 3 h r1).bind fun r2 =>
  (mm_gi 1 3 h r2).bind fun x3 =>
  if x3 = 0 then
    some (some (.int (-2147483648)), h)
  else
    if v1 < 0 then
      some (some (.int (-2147483648)), h)
    else
      (mm_gr 11 13 h t).bind fun r4 =>
      (mm_gr 8 3 h r4).bind fun r5 =>
      (mm_gi 1 10 h r5).bind fun x6 =>
      if v1 < x6 then
        (mm_gr 11 13 h t).bind fun r7 =>
        (mm_gr 8 3 h r7).bind fun r8 =>
        (mm_gr 1 1 h r8).bind fun r9 =>
        (mm_li h r9 v1).bind fun x10 =>
        some (some (.int x10), h)
      else
        some (some (.int (-2147483648)), h) := (mm_ga_is rfl).trans ((mm_gd_is hb).trans (e_Ls_side_0 mm_fu t v1 h))
set_option maxRecDepth 100000 in
theorem i_Ls_side (l : Launch) : mm_Imp l yX11_side cX11_side 2 (some .int) 1 f_Ls_side := mm_imp l (P := p_Ls_side) mm_cls_ok mm_sys_ok (by decide) (mm_Pok_of (List.forall_mem_cons.mpr ⟨k_X11_77, (List.forall_mem_cons.mpr ⟨k_X11_273, (List.forall_mem_cons.mpr ⟨k_X11_277, (List.forall_mem_cons.mpr ⟨k_X11_283, (List.forall_mem_cons.mpr ⟨k_X11_287, (fun _ h => absurd h List.not_mem_nil)⟩)⟩)⟩)⟩)⟩) (fun _ h => absurd h List.not_mem_nil) (List.forall_mem_cons.mpr ⟨q_1407, (fun _ h => absurd h List.not_mem_nil)⟩) (fun _ h => absurd h List.not_mem_nil)) (by decide +kernel) rfl (cats := [1, 1]) (fun as h r e => ⟨(mm_ga_inv e).1, (mm_gd_inv (mm_ga_inv e).2).1⟩) rfl (by decide)
theorem v_Ls_side (l : Launch) {own : String} {i n0 : Nat} (hl : Cond.methodLink own i yX11_side ∈ mm_tbl) (hn : 2 ≤ n0) : mm_cok l own n0 i (0, 1, 1, f_Ls_side) := Or.inr (Or.inr ⟨rfl, yX11_side, cX11_side, 2, (some .int), 1, 11, TX11, 16, i_Ls_side l, hn, by decide, by decide +kernel, rfl, fun _ _ _ e => (mm_gd_inv (mm_ga_inv e).2).2, hl, q_1404, q_1405, q_163, q_1406⟩)
def p_Ls_splits : mm_P := ([(0, .aload_n 0, 1, 0), (1, .iload_n 1, 1, 0), (2, .invokevirtual 132, 3, 0), (5, .ifCond .eq 14, 3, 0), (8, .iload_n 2, 1, 0), (9, .ifCond .lt 10, 3, 0), (12, .iload_n 2, 1, 0), (13, .sipush 999, 3, 999), (16, .if_icmp .le 5, 3, 0), (19, .iconst 0, 1, 0), (20, .ireturn, 1, 0), (21, .aload_n 0, 1, 0), (22, .getfield 77, 3, 0), (25, .getfield 135, 3, 0), (28, .iload_n 1, 1, 0), (29, .aaload, 1, 0), (30, .astore_n 3, 1, 0), (31, .aload_n 3, 1, 0), (32, .aload_n 3, 1, 0), (33, .iload_n 2, 1, 0), (34, .aload_n 0, 1, 0), (35, .getfield 77, 3, 0), (38, .getfield 108, 3, 0), (41, .getfield 245, 3, 0), (44, .invokevirtual 290, 3, 0), (47, .invokevirtual 293, 3, 0), (50, .ireturn, 1, 0)], [(77, 11, 13, 2), (108, 8, 0, 4), (135, 8, 2, 4), (245, 7, 1, 0)], [(132, 0, 1, 1, f_Ls_isIndex), (290, 0, 2, 1, f_Lv_code), (293, 0, 1, 1, f_Lv_wouldSplit)], [], [], [(0, [0, 1, 2])], [], 1)
def f_Ls_splits : mm_F := fun args h => mm_ga [1, 1, 1] args (mm_gd 11 args h (mm_run p_Ls_splits (mm_fu + 1) 0 args [] h))
set_option maxRecDepth 100000 in
theorem e_Ls_splits_0 (f : Nat) (t : Nat) (v1 : Int32) (v2 : Int32) (h : mm_H) : mm_run p_Ls_splits (f + 1) 0 [.ref t, .int v1, .int v2] [] h =
  mm_ci (f_Ls_isIndex [.ref t, .int v1] h) fun x2 h1 =>
  if x2 = 0 then
    some (some (.int 0), h1)
  else
    if v2 < 0 then
      some (some (.int 0), h1)
    else
      if (999 : Int32) < v2 then
        some (some (.int 0), h1)
      else
        (mm_gr 11 13 h1 t).bind fun r3 =>
        (mm_gr 8 2 h1 r3).bind fun r4 =>
        (mm_lr h1 r4 v1).bind fun r5 =>
        (mm_gr 11 13 h1 t).bind fun r6 =>
        (mm_gr 8 0 h1 r6).bind fun r7 =>
        (mm_gi 7 1 h1 r7).bind fun x8 =>
        mm_ci (f_Lv_code [.ref r5, .int v2, .int x8] h1) fun x10 h9 =>
        mm_ci (f_Lv_wouldSplit [.ref r5, .int x10] h9) fun x12 h11 =>
        if x12 = 0 ∨ x12 = 1 then some (some (.int x12), h11) else none := rfl
theorem e_Ls_splits (t : Nat) (v1 : Int32) (v2 : Int32) (h : mm_H) {fs : List Value} (hb : h t = some (.inr (11, fs))) : f_Ls_splits [.ref t, .int v1, .int v2] h =
  mm_ci (f_Ls_isIndex [.ref t, .int v1] h) fun x2 h1 =>
  if x2 = 0 then
    some (some (.int 0), h1)
  else
    if v2 < 0 then
      some (some (.int 0), h1)
    else
      if (999 : Int32) < v2 then
        some (some (.int 0), h1)
      else
        (mm_gr 11 13 h1 t).bind fun r3 =>
        (mm_gr 8 2 h1 r3).bind fun r4 =>
        (mm_lr h1 r4 v1).bind fun r5 =>
        (mm_gr 11 13 h1 t).bind fun r6 =>
        (mm_gr 8 0 h1 r6).bind fun r7 =>
        (mm_gi 7 1 h1 r7).bind fun x8 =>
        mm_ci (f_Lv_code [.ref r5, .int v2, .int x8] h1) fun x10 h9 =>
        mm_ci (f_Lv_wouldSplit [.ref r5, .int x10] h9) fun x12 h11 =>
        if x12 = 0 ∨ x12 = 1 then some (some (.int x12), h11) else none := (mm_ga_is rfl).trans ((mm_gd_is hb).trans (e_Ls_splits_0 mm_fu t v1 v2 h))
set_option maxRecDepth 100000 in
theorem i_Ls_splits (l : Launch) : mm_Imp l yX11_splits cX11_splits 4 (some .boolean) 3 f_Ls_splits := mm_imp l (P := p_Ls_splits) mm_cls_ok mm_sys_ok (by decide) (mm_Pok_of (List.forall_mem_cons.mpr ⟨k_X11_77, (List.forall_mem_cons.mpr ⟨k_X11_108, (List.forall_mem_cons.mpr ⟨k_X11_135, (List.forall_mem_cons.mpr ⟨k_X11_245, (fun _ h => absurd h List.not_mem_nil)⟩)⟩)⟩)⟩) (List.forall_mem_cons.mpr ⟨v_Ls_isIndex l q_974 (by decide), (List.forall_mem_cons.mpr ⟨v_Lv_code l q_1412 (by decide), (List.forall_mem_cons.mpr ⟨v_Lv_wouldSplit l q_1413 (by decide), (fun _ h => absurd h List.not_mem_nil)⟩)⟩)⟩) (fun _ h => absurd h List.not_mem_nil) (fun _ h => absurd h List.not_mem_nil)) (by decide +kernel) rfl (cats := [1, 1, 1]) (fun as h r e => ⟨(mm_ga_inv e).1, (mm_gd_inv (mm_ga_inv e).2).1⟩) rfl (by decide)
theorem v_Ls_splits (l : Launch) {own : String} {i n0 : Nat} (hl : Cond.methodLink own i yX11_splits ∈ mm_tbl) (hn : 4 ≤ n0) : mm_cok l own n0 i (0, 2, 1, f_Ls_splits) := Or.inr (Or.inr ⟨rfl, yX11_splits, cX11_splits, 4, (some .boolean), 3, 11, TX11, 16, i_Ls_splits l, hn, by decide, by decide +kernel, rfl, fun _ _ _ e => (mm_gd_inv (mm_ga_inv e).2).2, hl, q_1409, q_1410, q_163, q_1411⟩)
def p_Ls_fill : mm_P := ([(0, .aload_n 0, 1, 0), (1, .iload_n 1, 1, 0), (2, .invokevirtual 132, 3, 0), (5, .ifCond .ne 5, 3, 0), (8, .iconst (-1), 1, (-1)), (9, .ireturn, 1, 0), (10, .aload_n 0, 1, 0), (11, .getfield 77, 3, 0), (14, .getfield 135, 3, 0), (17, .iload_n 1, 1, 0), (18, .aaload, 1, 0), (19, .astore_n 2, 1, 0), (20, .aload_n 2, 1, 0), (21, .getfield 151, 3, 0), (24, .aload_n 0, 1, 0), (25, .getfield 57, 3, 0), (28, .getfield 296, 3, 0), (31, .imul, 1, 0), (32, .istore_n 3, 1, 0), (33, .iload_n 3, 1, 0), (34, .ifCond .le 15, 3, 0), (37, .bipush 100, 2, 100), (39, .aload_n 2, 1, 0), (40, .getfield 146, 3, 0), (43, .imul, 1, 0), (44, .iload_n 3, 1, 0), (45, .idiv, 1, 0), (46, .goto 4, 3, 0), (49, .iconst 0, 1, 0), (50, .ireturn, 1, 0)], [(57, 11, 9, 2), (77, 11, 13, 2), (135, 8, 2, 4), (146, 2, 2, 0), (151, 2, 3, 0), (296, 4, 8, 0)], [(132, 0, 1, 1, f_Ls_isIndex)], [], [], [(0, [0, 1])], [], 2)
def f_Ls_fill : mm_F := fun args h => mm_ga [1, 1] args (mm_gd 11 args h (mm_run p_Ls_fill (mm_fu + 1) 0 args [] h))
set_option maxRecDepth 100000 in
theorem e_Ls_fill_0 (f : Nat) (t : Nat) (v1 : Int32) (h : mm_H) : mm_run p_Ls_fill (f + 1) 0 [.ref t, .int v1] [] h =
  mm_ci (f_Ls_isIndex [.ref t, .int v1] h) fun x2 h1 =>
  if x2 = 0 then
    some (some (.int (-1)), h1)
  else
    (mm_gr 11 13 h1 t).bind fun r3 =>
    (mm_gr 8 2 h1 r3).bind fun r4 =>
    (mm_lr h1 r4 v1).bind fun r5 =>
    (mm_gi 2 3 h1 r5).bind fun x6 =>
    (mm_gr 11 9 h1 t).bind fun r7 =>
    (mm_gi 4 8 h1 r7).bind fun x8 =>
    if (0 : Int32) < (x6 * x8) then
      (mm_gi 2 2 h1 r5).bind fun x9 =>
      if (x6 * x8) = 0 then none else
      some (some (.int ((100 * x9) / (x6 * x8))), h1)
    else
      some (some (.int 0), h1) := rfl
theorem e_Ls_fill (t : Nat) (v1 : Int32) (h : mm_H) {fs : List Value} (hb : h t = some (.inr (11, fs))) : f_Ls_fill [.ref t, .int v1] h =
  mm_ci (f_Ls_isIndex [.ref t, .int v1] h) fun x2 h1 =>
  if x2 = 0 then
    some (some (.int (-1)), h1)
  else
    (mm_gr 11 13 h1 t).bind fun r3 =>
    (mm_gr 8 2 h1 r3).bind fun r4 =>
    (mm_lr h1 r4 v1).bind fun r5 =>
    (mm_gi 2 3 h1 r5).bind fun x6 =>
    (mm_gr 11 9 h1 t).bind fun r7 =>
    (mm_gi 4 8 h1 r7).bind fun x8 =>
    if (0 : Int32) < (x6 * x8) then
      (mm_gi 2 2 h1 r5).bind fun x9 =>
      if (x6 * x8) = 0 then none else
      some (some (.int ((100 * x9) / (x6 * x8))), h1)
    else
      some (some (.int 0), h1) := (mm_ga_is rfl).trans ((mm_gd_is hb).trans (e_Ls_fill_0 mm_fu t v1 h))
set_option maxRecDepth 100000 in
theorem i_Ls_fill (l : Launch) : mm_Imp l yX11_fill cX11_fill 4 (some .int) 2 f_Ls_fill := mm_imp l (P := p_Ls_fill) mm_cls_ok mm_sys_ok (by decide) (mm_Pok_of (List.forall_mem_cons.mpr ⟨k_X11_57, (List.forall_mem_cons.mpr ⟨k_X11_77, (List.forall_mem_cons.mpr ⟨k_X11_135, (List.forall_mem_cons.mpr ⟨k_X11_146, (List.forall_mem_cons.mpr ⟨k_X11_151, (List.forall_mem_cons.mpr ⟨k_X11_296, (fun _ h => absurd h List.not_mem_nil)⟩)⟩)⟩)⟩)⟩)⟩) (List.forall_mem_cons.mpr ⟨v_Ls_isIndex l q_974 (by decide), (fun _ h => absurd h List.not_mem_nil)⟩) (fun _ h => absurd h List.not_mem_nil) (fun _ h => absurd h List.not_mem_nil)) (by decide +kernel) rfl (cats := [1, 1]) (fun as h r e => ⟨(mm_ga_inv e).1, (mm_gd_inv (mm_ga_inv e).2).1⟩) rfl (by decide)
theorem v_Ls_fill (l : Launch) {own : String} {i n0 : Nat} (hl : Cond.methodLink own i yX11_fill ∈ mm_tbl) (hn : 3 ≤ n0) : mm_cok l own n0 i (0, 1, 1, f_Ls_fill) := Or.inr (Or.inr ⟨rfl, yX11_fill, cX11_fill, 4, (some .int), 2, 11, TX11, 16, i_Ls_fill l, hn, by decide, by decide +kernel, rfl, fun _ _ _ e => (mm_gd_inv (mm_ga_inv e).2).2, hl, q_1418, q_1419, q_163, q_1420⟩)
def p_Ls_sparse : mm_P := ([(0, .aload_n 0, 1, 0), (1, .iload_n 1, 1, 0), (2, .invokevirtual 132, 3, 0), (5, .ifCond .eq 18, 3, 0), (8, .aload_n 0, 1, 0), (9, .getfield 77, 3, 0), (12, .getfield 135, 3, 0), (15, .iload_n 1, 1, 0), (16, .aaload, 1, 0), (17, .invokevirtual 299, 3, 0), (20, .goto 4, 3, 0), (23, .iconst (-1), 1, (-1)), (24, .ireturn, 1, 0)], [(77, 11, 13, 2), (135, 8, 2, 4)], [(132, 0, 1, 1, f_Ls_isIndex), (299, 0, 0, 1, f_Lv_underHalf)], [], [], [(0, [0, 1])], [], 2)
def f_Ls_sparse : mm_F := fun args h => mm_ga [1, 1] args (mm_gd 11 args h (mm_run p_Ls_sparse (mm_fu + 1) 0 args [] h))
set_option maxRecDepth 100000 in
theorem e_Ls_sparse_0 (f : Nat) (t : Nat) (v1 : Int32) (h : mm_H) : mm_run p_Ls_sparse (f + 1) 0 [.ref t, .int v1] [] h =
  mm_ci (f_Ls_isIndex [.ref t, .int v1] h) fun x2 h1 =>
  if x2 = 0 then
    some (some (.int (-1)), h1)
  else
    (mm_gr 11 13 h1 t).bind fun r3 =>
    (mm_gr 8 2 h1 r3).bind fun r4 =>
    (mm_lr h1 r4 v1).bind fun r5 =>
    mm_ci (f_Lv_underHalf [.ref r5] h1) fun x7 h6 =>
    some (some (.int x7), h6) := rfl
theorem e_Ls_sparse (t : Nat) (v1 : Int32) (h : mm_H) {fs : List Value} (hb : h t = some (.inr (11, fs))) : f_Ls_sparse [.ref t, .int v1] h =
  mm_ci (f_Ls_isIndex [.ref t, .int v1] h) fun x2 h1 =>
  if x2 = 0 then
    some (some (.int (-1)), h1)
  else
    (mm_gr 11 13 h1 t).bind fun r3 =>
    (mm_gr 8 2 h1 r3).bind fun r4 =>
    (mm_lr h1 r4 v1).bind fun r5 =>
    mm_ci (f_Lv_underHalf [.ref r5] h1) fun x7 h6 =>
    some (some (.int x7), h6) := (mm_ga_is rfl).trans ((mm_gd_is hb).trans (e_Ls_sparse_0 mm_fu t v1 h))
set_option maxRecDepth 100000 in
theorem i_Ls_sparse (l : Launch) : mm_Imp l yX11_sparse cX11_sparse 2 (some .int) 2 f_Ls_sparse := mm_imp l (P := p_Ls_sparse) mm_cls_ok mm_sys_ok (by decide) (mm_Pok_of (List.forall_mem_cons.mpr ⟨k_X11_77, (List.forall_mem_cons.mpr ⟨k_X11_135, (fun _ h => absurd h List.not_mem_nil)⟩)⟩) (List.forall_mem_cons.mpr ⟨v_Ls_isIndex l q_974 (by decide), (List.forall_mem_cons.mpr ⟨v_Lv_underHalf l q_1425 (by decide), (fun _ h => absurd h List.not_mem_nil)⟩)⟩) (fun _ h => absurd h List.not_mem_nil) (fun _ h => absurd h List.not_mem_nil)) (by decide +kernel) rfl (cats := [1, 1]) (fun as h r e => ⟨(mm_ga_inv e).1, (mm_gd_inv (mm_ga_inv e).2).1⟩) rfl (by decide)
theorem v_Ls_sparse (l : Launch) {own : String} {i n0 : Nat} (hl : Cond.methodLink own i yX11_sparse ∈ mm_tbl) (hn : 3 ≤ n0) : mm_cok l own n0 i (0, 1, 1, f_Ls_sparse) := Or.inr (Or.inr ⟨rfl, yX11_sparse, cX11_sparse, 2, (some .int), 2, 11, TX11, 16, i_Ls_sparse l, hn, by decide, by decide +kernel, rfl, fun _ _ _ e => (mm_gd_inv (mm_ga_inv e).2).2, hl, q_1422, q_1423, q_163, q_1424⟩)
def p_Ls_costs : mm_P := ([(0, .aload_n 0, 1, 0), (1, .iload_n 1, 1, 0), (2, .invokevirtual 132, 3, 0), (5, .ifCond .ne 5, 3, 0), (8, .iconst (-1), 1, (-1)), (9, .ireturn, 1, 0), (10, .iload_n 2, 1, 0), (11, .lookupswitch 65 #[(0, 25), (1, 45)], 25, 0), (36, .aload_n 0, 1, 0), (37, .getfield 77, 3, 0), (40, .getfield 135, 3, 0), (43, .iload_n 1, 1, 0), (44, .aaload, 1, 0), (45, .aload_n 0, 1, 0), (46, .getfield 77, 3, 0), (49, .invokevirtual 302, 3, 0), (52, .invokevirtual 305, 3, 0), (55, .ireturn, 1, 0), (56, .aload_n 0, 1, 0), (57, .getfield 77, 3, 0), (60, .getfield 135, 3, 0), (63, .iload_n 1, 1, 0), (64, .aaload, 1, 0), (65, .aload_n 0, 1, 0), (66, .getfield 77, 3, 0), (69, .invokevirtual 302, 3, 0), (72, .invokevirtual 308, 3, 0), (75, .ireturn, 1, 0), (76, .iconst (-1), 1, (-1)), (77, .ireturn, 1, 0)], [(77, 11, 13, 2), (135, 8, 2, 4)], [(132, 0, 1, 1, f_Ls_isIndex), (302, 0, 0, 1, f_St_doomed), (305, 0, 1, 1, f_Lv_passCost), (308, 0, 1, 1, f_Lv_probeCost)], [], [], [(0, [0, 1, 2])], [(11, [(0, 36), (1, 56)], 76)], 2)
def f_Ls_costs : mm_F := fun args h => mm_ga [1, 1, 1] args (mm_gd 11 args h (mm_run p_Ls_costs (mm_fu + 1) 0 args [] h))
set_option maxRecDepth 100000 in
theorem e_Ls_costs_0 (f : Nat) (t : Nat) (v1 : Int32) (v2 : Int32) (h : mm_H) : mm_run p_Ls_costs (f + 1) 0 [.ref t, .int v1, .int v2] [] h =
  mm_ci (f_Ls_isIndex [.ref t, .int v1] h) fun x2 h1 =>
  if x2 = 0 then
    some (some (.int (-1)), h1)
  else
    if v2 = 0 then
      (mm_gr 11 13 h1 t).bind fun r3 =>
      (mm_gr 8 2 h1 r3).bind fun r4 =>
      (mm_lr h1 r4 v1).bind fun r5 =>
      (mm_gr 11 13 h1 t).bind fun r6 =>
      mm_ci (f_St_doomed [.ref r6] h1) fun x8 h7 =>
      mm_ci (f_Lv_passCost [.ref r5, .int x8] h7) fun x10 h9 =>
      some (some (.int x10), h9)
    else if v2 = 1 then
      (mm_gr 11 13 h1 t).bind fun r11 =>
      (mm_gr 8 2 h1 r11).bind fun r12 =>
      (mm_lr h1 r12 v1).bind fun r13 =>
      (mm_gr 11 13 h1 t).bind fun r14 =>
      mm_ci (f_St_doomed [.ref r14] h1) fun x16 h15 =>
      mm_ci (f_Lv_probeCost [.ref r13, .int x16] h15) fun x18 h17 =>
      some (some (.int x18), h17)
    else 
      some (some (.int (-1)), h1) := rfl
theorem e_Ls_costs (t : Nat) (v1 : Int32) (v2 : Int32) (h : mm_H) {fs : List Value} (hb : h t = some (.inr (11, fs))) : f_Ls_costs [.ref t, .int v1, .int v2] h =
  mm_ci (f_Ls_isIndex [.ref t, .int v1] h) fun x2 h1 =>
  if x2 = 0 then
    some (some (.int (-1)), h1)
  else
    if v2 = 0 then
      (mm_gr 11 13 h1 t).bind fun r3 =>
      (mm_gr 8 2 h1 r3).bind fun r4 =>
      (mm_lr h1 r4 v1).bind fun r5 =>
      (mm_gr 11 13 h1 t).bind fun r6 =>
      mm_ci (f_St_doomed [.ref r6] h1) fun x8 h7 =>
      mm_ci (f_Lv_passCost [.ref r5, .int x8] h7) fun x10 h9 =>
      some (some (.int x10), h9)
    else if v2 = 1 then
      (mm_gr 11 13 h1 t).bind fun r11 =>
      (mm_gr 8 2 h1 r11).bind fun r12 =>
      (mm_lr h1 r12 v1).bind fun r13 =>
      (mm_gr 11 13 h1 t).bind fun r14 =>
      mm_ci (f_St_doomed [.ref r14] h1) fun x16 h15 =>
      mm_ci (f_Lv_probeCost [.ref r13, .int x16] h15) fun x18 h17 =>
      some (some (.int x18), h17)
    else 
      some (some (.int (-1)), h1) := (mm_ga_is rfl).trans ((mm_gd_is hb).trans (e_Ls_costs_0 mm_fu t v1 v2 h))
set_option maxRecDepth 100000 in
theorem i_Ls_costs (l : Launch) : mm_Imp l yX11_costs cX11_costs 3 (some .int) 6 f_Ls_costs := mm_imp l (P := p_Ls_costs) mm_cls_ok mm_sys_ok (by decide) (mm_Pok_of (List.forall_mem_cons.mpr ⟨k_X11_77, (List.forall_mem_cons.mpr ⟨k_X11_135, (fun _ h => absurd h List.not_mem_nil)⟩)⟩) (List.forall_mem_cons.mpr ⟨v_Ls_isIndex l q_974 (by decide), (List.forall_mem_cons.mpr ⟨v_St_doomed l q_1433 (by decide), (List.forall_mem_cons.mpr ⟨v_Lv_passCost l q_1437 (by decide), (List.forall_mem_cons.mpr ⟨v_Lv_probeCost l q_1438 (by decide), (fun _ h => absurd h List.not_mem_nil)⟩)⟩)⟩)⟩) (fun _ h => absurd h List.not_mem_nil) (fun _ h => absurd h List.not_mem_nil)) (by decide +kernel) rfl (cats := [1, 1, 1]) (fun as h r e => ⟨(mm_ga_inv e).1, (mm_gd_inv (mm_ga_inv e).2).1⟩) rfl (by decide)
theorem v_Ls_costs (l : Launch) {own : String} {i n0 : Nat} (hl : Cond.methodLink own i yX11_costs ∈ mm_tbl) (hn : 7 ≤ n0) : mm_cok l own n0 i (0, 2, 1, f_Ls_costs) := Or.inr (Or.inr ⟨rfl, yX11_costs, cX11_costs, 3, (some .int), 6, 11, TX11, 16, i_Ls_costs l, hn, by decide, by decide +kernel, rfl, fun _ _ _ e => (mm_gd_inv (mm_ga_inv e).2).2, hl, q_1430, q_1431, q_163, q_1432⟩)
def p_Ls_ways : mm_P := ([(0, .aload_n 0, 1, 0), (1, .getfield 77, 3, 0), (4, .invokevirtual 302, 3, 0), (7, .istore_n 1, 1, 0), (8, .iconst 0, 1, 0), (9, .istore_n 2, 1, 0), (10, .iconst 0, 1, 0), (11, .istore_n 3, 1, 0), (12, .iload_n 3, 1, 0), (13, .aload_n 0, 1, 0), (14, .getfield 57, 3, 0), (17, .getfield 311, 3, 0), (20, .if_icmp .ge 31, 3, 0), (23, .aload_n 0, 1, 0), (24, .getfield 77, 3, 0), (27, .getfield 135, 3, 0), (30, .iload_n 3, 1, 0), (31, .aaload, 1, 0), (32, .iload_n 1, 1, 0), (33, .invokevirtual 314, 3, 0), (36, .ifCond .ne 9, 3, 0), (39, .iload_n 2, 1, 0), (40, .iconst 1, 1, 1), (41, .iload_n 3, 1, 0), (42, .ishl, 1, 0), (43, .ior, 1, 0), (44, .istore_n 2, 1, 0), (45, .iinc 3 1, 3, 1), (48, .goto (-36), 3, 0), (51, .iload_n 2, 1, 0), (52, .ireturn, 1, 0)], [(57, 11, 9, 2), (77, 11, 13, 2), (135, 8, 2, 4), (311, 4, 10, 0)], [(302, 0, 0, 1, f_St_doomed), (314, 0, 1, 1, f_Lv_wayFor)], [], [], [(0, [0]), (12, [0, 1, 2, 3])], [], 2)
def f_Ls_ways : mm_F := fun args h => mm_ga [1] args (mm_gd 11 args h (mm_run p_Ls_ways (mm_fu + 1) 0 args [] h))
set_option maxRecDepth 100000 in
theorem e_Ls_ways_0 (f : Nat) (t : Nat) (h : mm_H) : mm_run p_Ls_ways (f + 1) 0 [.ref t] [] h =
  (mm_gr 11 13 h t).bind fun r1 =>
  mm_ci (f_St_doomed [.ref r1] h) fun x3 h2 =>
  mm_run p_Ls_ways f 12 [.ref t, .int x3, .int 0, .int 0] [] h2 := rfl
theorem e_Ls_ways (t : Nat) (h : mm_H) {fs : List Value} (hb : h t = some (.inr (11, fs))) : f_Ls_ways [.ref t] h =
  (mm_gr 11 13 h t).bind fun r1 =>
  mm_ci (f_St_doomed [.ref r1] h) fun x3 h2 =>
  mm_run p_Ls_ways mm_fu 12 [.ref t, .int x3, .int 0, .int 0] [] h2 := (mm_ga_is rfl).trans ((mm_gd_is hb).trans (e_Ls_ways_0 mm_fu t h))
set_option maxRecDepth 100000 in
theorem e_Ls_ways_12 (f : Nat) (t : Nat) (v1 : Int32) (v2 : Int32) (v3 : Int32) (h : mm_H) : mm_run p_Ls_ways (f + 1) 12 [.ref t, .int v1, .int v2, .int v3] [] h =
  (mm_gr 11 9 h t).bind fun r1 =>
  (mm_gi 4 10 h r1).bind fun x2 =>
  if v3 < x2 then
    (mm_gr 11 13 h t).bind fun r3 =>
    (mm_gr 8 2 h r3).bind fun r4 =>
    (mm_lr h r4 v3).bind fun r5 =>
    mm_ci (f_Lv_wayFor [.ref r5, .int v1] h) fun x7 h6 =>
    if x7 = 0 then
      mm_run p_Ls_ways f 12 [.ref t, .int v1, .int (v2 ||| (1 <<< (v3 &&& 31))), .int (v3 + 1)] [] h6
    else
      mm_run p_Ls_ways f 12 [.ref t, .int v1, .int v2, .int (v3 + 1)] [] h6
  else
    some (some (.int v2), h) := rfl
set_option maxRecDepth 100000 in
theorem i_Ls_ways (l : Launch) : mm_Imp l yX11_ways cX11_ways 4 (some .int) 6 f_Ls_ways := mm_imp l (P := p_Ls_ways) mm_cls_ok mm_sys_ok (by decide) (mm_Pok_of (List.forall_mem_cons.mpr ⟨k_X11_57, (List.forall_mem_cons.mpr ⟨k_X11_77, (List.forall_mem_cons.mpr ⟨k_X11_135, (List.forall_mem_cons.mpr ⟨k_X11_311, (fun _ h => absurd h List.not_mem_nil)⟩)⟩)⟩)⟩) (List.forall_mem_cons.mpr ⟨v_St_doomed l q_1433 (by decide), (List.forall_mem_cons.mpr ⟨v_Lv_wayFor l q_1443 (by decide), (fun _ h => absurd h List.not_mem_nil)⟩)⟩) (fun _ h => absurd h List.not_mem_nil) (fun _ h => absurd h List.not_mem_nil)) (by decide +kernel) rfl (cats := [1]) (fun as h r e => ⟨(mm_ga_inv e).1, (mm_gd_inv (mm_ga_inv e).2).1⟩) rfl (by decide)
theorem v_Ls_ways (l : Launch) {own : String} {i n0 : Nat} (hl : Cond.methodLink own i yX11_ways ∈ mm_tbl) (hn : 7 ≤ n0) : mm_cok l own n0 i (0, 0, 1, f_Ls_ways) := Or.inr (Or.inr ⟨rfl, yX11_ways, cX11_ways, 4, (some .int), 6, 11, TX11, 16, i_Ls_ways l, hn, by decide, by decide +kernel, rfl, fun _ _ _ e => (mm_gd_inv (mm_ga_inv e).2).2, hl, q_1440, q_1441, q_163, q_1442⟩)
def p_Ls_turn : mm_P := ([(0, .aload_n 0, 1, 0), (1, .iload_n 1, 1, 0), (2, .invokevirtual 132, 3, 0), (5, .ifCond .ne 5, 3, 0), (8, .iconst (-1), 1, (-1)), (9, .ireturn, 1, 0), (10, .aload_n 0, 1, 0), (11, .getfield 77, 3, 0), (14, .getfield 135, 3, 0), (17, .iload_n 1, 1, 0), (18, .aaload, 1, 0), (19, .astore_n 2, 1, 0), (20, .aload_n 2, 1, 0), (21, .invokevirtual 317, 3, 0), (24, .istore_n 3, 1, 0), (25, .iconst 0, 1, 0), (26, .istore 4, 2, 0), (28, .iconst 0, 1, 0), (29, .istore 5, 2, 0), (31, .iload 5, 2, 0), (33, .bipush 30, 2, 30), (35, .if_icmp .ge 36, 3, 0), (38, .iload 4, 2, 0), (40, .iload_n 3, 1, 0), (41, .iconst 1, 1, 1), (42, .iload 5, 2, 0), (44, .ishl, 1, 0), (45, .iand, 1, 0), (46, .ior, 1, 0), (47, .istore 4, 2, 0), (49, .aload_n 2, 1, 0), (50, .iload 4, 2, 0), (52, .invokevirtual 314, 3, 0), (55, .iconst 1, 1, 1), (56, .if_icmp .ne 9, 3, 0), (59, .iload 4, 2, 0), (61, .invokestatic 205, 3, 0), (64, .ireturn, 1, 0), (65, .iinc 5 1, 3, 1), (68, .goto (-37), 3, 0), (71, .iconst (-1), 1, (-1)), (72, .ireturn, 1, 0)], [(77, 11, 13, 2), (135, 8, 2, 4)], [(132, 0, 1, 1, f_Ls_isIndex), (205, 1, 1, 1, f_Ji_bitCount), (314, 0, 1, 1, f_Lv_wayFor), (317, 0, 0, 1, f_Lv_rowBits)], [], [], [(0, [0, 1]), (31, [2, 3, 4, 5])], [], 2)
def f_Ls_turn : mm_F := fun args h => mm_ga [1, 1] args (mm_gd 11 args h (mm_run p_Ls_turn (mm_fu + 1) 0 args [] h))
set_option maxRecDepth 100000 in
theorem e_Ls_turn_0 (f : Nat) (t : Nat) (v1 : Int32) (h : mm_H) : mm_run p_Ls_turn (f + 1) 0 [.ref t, .int v1] [] h =
  mm_ci (f_Ls_isIndex [.ref t, .int v1] h) fun x2 h1 =>
  if x2 = 0 then
    some (some (.int (-1)), h1)
  else
    (mm_gr 11 13 h1 t).bind fun r3 =>
    (mm_gr 8 2 h1 r3).bind fun r4 =>
    (mm_lr h1 r4 v1).bind fun r5 =>
    mm_ci (f_Lv_rowBits [.ref r5] h1) fun x7 h6 =>
    mm_run p_Ls_turn f 31 [.ref r5, .int x7, .int 0, .int 0] [] h6 := rfl
theorem e_Ls_turn (t : Nat) (v1 : Int32) (h : mm_H) {fs : List Value} (hb : h t = some (.inr (11, fs))) : f_Ls_turn [.ref t, .int v1] h =
  mm_ci (f_Ls_isIndex [.ref t, .int v1] h) fun x2 h1 =>
  if x2 = 0 then
    some (some (.int (-1)), h1)
  else
    (mm_gr 11 13 h1 t).bind fun r3 =>
    (mm_gr 8 2 h1 r3).bind fun r4 =>
    (mm_lr h1 r4 v1).bind fun r5 =>
    mm_ci (f_Lv_rowBits [.ref r5] h1) fun x7 h6 =>
    mm_run p_Ls_turn mm_fu 31 [.ref r5, .int x7, .int 0, .int 0] [] h6 := (mm_ga_is rfl).trans ((mm_gd_is hb).trans (e_Ls_turn_0 mm_fu t v1 h))
set_option maxRecDepth 100000 in
theorem e_Ls_turn_31 (f : Nat) (v2 : Nat) (v3 : Int32) (v4 : Int32) (v5 : Int32) (h : mm_H) : mm_run p_Ls_turn (f + 1) 31 [.ref v2, .int v3, .int v4, .int v5] [] h =
  if v5 < 30 then
    mm_ci (f_Lv_wayFor [.ref v2, .int (v4 ||| (v3 &&& (1 <<< (v5 &&& 31))))] h) fun x2 h1 =>
    if x2 = 1 then
      mm_ci (f_Ji_bitCount [.int (v4 ||| (v3 &&& (1 <<< (v5 &&& 31))))] h1) fun x4 h3 =>
      some (some (.int x4), h3)
    else
      mm_run p_Ls_turn f 31 [.ref v2, .int v3, .int (v4 ||| (v3 &&& (1 <<< (v5 &&& 31)))), .int (v5 + 1)] [] h1
  else
    some (some (.int (-1)), h) := rfl
set_option maxRecDepth 100000 in
theorem i_Ls_turn (l : Launch) : mm_Imp l yX11_turn cX11_turn 6 (some .int) 4 f_Ls_turn := mm_imp l (P := p_Ls_turn) mm_cls_ok mm_sys_ok (by decide) (mm_Pok_of (List.forall_mem_cons.mpr ⟨k_X11_77, (List.forall_mem_cons.mpr ⟨k_X11_135, (fun _ h => absurd h List.not_mem_nil)⟩)⟩) (List.forall_mem_cons.mpr ⟨v_Ls_isIndex l q_974 (by decide), (List.forall_mem_cons.mpr ⟨v_Ji_bitCount l (Or.inl q_1222) (by decide), (List.forall_mem_cons.mpr ⟨v_Lv_wayFor l q_1443 (by decide), (List.forall_mem_cons.mpr ⟨v_Lv_rowBits l q_1451 (by decide), (fun _ h => absurd h List.not_mem_nil)⟩)⟩)⟩)⟩) (fun _ h => absurd h List.not_mem_nil) (fun _ h => absurd h List.not_mem_nil)) (by decide +kernel) rfl (cats := [1, 1]) (fun as h r e => ⟨(mm_ga_inv e).1, (mm_gd_inv (mm_ga_inv e).2).1⟩) rfl (by decide)
theorem v_Ls_turn (l : Launch) {own : String} {i n0 : Nat} (hl : Cond.methodLink own i yX11_turn ∈ mm_tbl) (hn : 5 ≤ n0) : mm_cok l own n0 i (0, 1, 1, f_Ls_turn) := Or.inr (Or.inr ⟨rfl, yX11_turn, cX11_turn, 6, (some .int), 4, 11, TX11, 16, i_Ls_turn l, hn, by decide, by decide +kernel, rfl, fun _ _ _ e => (mm_gd_inv (mm_ga_inv e).2).2, hl, q_1448, q_1449, q_163, q_1450⟩)
def p_Ls_lefts : mm_P := ([(0, .aload_n 0, 1, 0), (1, .iload_n 1, 1, 0), (2, .invokevirtual 132, 3, 0), (5, .ifCond .eq 26, 3, 0), (8, .aload_n 0, 1, 0), (9, .getfield 77, 3, 0), (12, .getfield 135, 3, 0), (15, .iload_n 1, 1, 0), (16, .aaload, 1, 0), (17, .iload_n 2, 1, 0), (18, .aload_n 0, 1, 0), (19, .getfield 77, 3, 0), (22, .invokevirtual 302, 3, 0), (25, .invokevirtual 320, 3, 0), (28, .goto 4, 3, 0), (31, .iconst (-1), 1, (-1)), (32, .ireturn, 1, 0)], [(77, 11, 13, 2), (135, 8, 2, 4)], [(132, 0, 1, 1, f_Ls_isIndex), (302, 0, 0, 1, f_St_doomed), (320, 0, 2, 1, f_Lv_leftIn)], [], [], [(0, [0, 1, 2])], [], 2)
def f_Ls_lefts : mm_F := fun args h => mm_ga [1, 1, 1] args (mm_gd 11 args h (mm_run p_Ls_lefts (mm_fu + 1) 0 args [] h))
set_option maxRecDepth 100000 in
theorem e_Ls_lefts_0 (f : Nat) (t : Nat) (v1 : Int32) (v2 : Int32) (h : mm_H) : mm_run p_Ls_lefts (f + 1) 0 [.ref t, .int v1, .int v2] [] h =
  mm_ci (f_Ls_isIndex [.ref t, .int v1] h) fun x2 h1 =>
  if x2 = 0 then
    some (some (.int (-1)), h1)
  else
    (mm_gr 11 13 h1 t).bind fun r3 =>
    (mm_gr 8 2 h1 r3).bind fun r4 =>
    (mm_lr h1 r4 v1).bind fun r5 =>
    (mm_gr 11 13 h1 t).bind fun r6 =>
    mm_ci (f_St_doomed [.ref r6] h1) fun x8 h7 =>
    mm_ci (f_Lv_leftIn [.ref r5, .int v2, .int x8] h7) fun x10 h9 =>
    some (some (.int x10), h9) := rfl
theorem e_Ls_lefts (t : Nat) (v1 : Int32) (v2 : Int32) (h : mm_H) {fs : List Value} (hb : h t = some (.inr (11, fs))) : f_Ls_lefts [.ref t, .int v1, .int v2] h =
  mm_ci (f_Ls_isIndex [.ref t, .int v1] h) fun x2 h1 =>
  if x2 = 0 then
    some (some (.int (-1)), h1)
  else
    (mm_gr 11 13 h1 t).bind fun r3 =>
    (mm_gr 8 2 h1 r3).bind fun r4 =>
    (mm_lr h1 r4 v1).bind fun r5 =>
    (mm_gr 11 13 h1 t).bind fun r6 =>
    mm_ci (f_St_doomed [.ref r6] h1) fun x8 h7 =>
    mm_ci (f_Lv_leftIn [.ref r5, .int v2, .int x8] h7) fun x10 h9 =>
    some (some (.int x10), h9) := (mm_ga_is rfl).trans ((mm_gd_is hb).trans (e_Ls_lefts_0 mm_fu t v1 v2 h))
set_option maxRecDepth 100000 in
theorem i_Ls_lefts (l : Launch) : mm_Imp l yX11_lefts cX11_lefts 3 (some .int) 6 f_Ls_lefts := mm_imp l (P := p_Ls_lefts) mm_cls_ok mm_sys_ok (by decide) (mm_Pok_of (List.forall_mem_cons.mpr ⟨k_X11_77, (List.forall_mem_cons.mpr ⟨k_X11_135, (fun _ h => absurd h List.not_mem_nil)⟩)⟩) (List.forall_mem_cons.mpr ⟨v_Ls_isIndex l q_974 (by decide), (List.forall_mem_cons.mpr ⟨v_St_doomed l q_1433 (by decide), (List.forall_mem_cons.mpr ⟨v_Lv_leftIn l q_1456 (by decide), (fun _ h => absurd h List.not_mem_nil)⟩)⟩)⟩) (fun _ h => absurd h List.not_mem_nil) (fun _ h => absurd h List.not_mem_nil)) (by decide +kernel) rfl (cats := [1, 1, 1]) (fun as h r e => ⟨(mm_ga_inv e).1, (mm_gd_inv (mm_ga_inv e).2).1⟩) rfl (by decide)
theorem v_Ls_lefts (l : Launch) {own : String} {i n0 : Nat} (hl : Cond.methodLink own i yX11_lefts ∈ mm_tbl) (hn : 7 ≤ n0) : mm_cok l own n0 i (0, 2, 1, f_Ls_lefts) := Or.inr (Or.inr ⟨rfl, yX11_lefts, cX11_lefts, 3, (some .int), 6, 11, TX11, 16, i_Ls_lefts l, hn, by decide, by decide +kernel, rfl, fun _ _ _ e => (mm_gd_inv (mm_ga_inv e).2).2, hl, q_1453, q_1454, q_163, q_1455⟩)
def p_Ls_when : mm_P := ([(0, .aload_n 0, 1, 0), (1, .getfield 77, 3, 0), (4, .getfield 273, 3, 0), (7, .getfield 277, 3, 0), (10, .ifCond .eq 25, 3, 0), (13, .aload_n 0, 1, 0), (14, .iload_n 1, 1, 0), (15, .invokevirtual 132, 3, 0), (18, .ifCond .eq 17, 3, 0), (21, .aload_n 0, 1, 0), (22, .getfield 77, 3, 0), (25, .getfield 108, 3, 0), (28, .iload_n 2, 1, 0), (29, .invokevirtual 112, 3, 0), (32, .ifCond .ne 5, 3, 0), (35, .iconst (-1), 1, (-1)), (36, .ireturn, 1, 0), (37, .aload_n 0, 1, 0), (38, .getfield 77, 3, 0), (41, .iload_n 1, 1, 0), (42, .invokevirtual 323, 3, 0), (45, .iload_n 2, 1, 0), (46, .ishr, 1, 0), (47, .iconst 1, 1, 1), (48, .iand, 1, 0), (49, .ifCond .ne 5, 3, 0), (52, .iconst (-1), 1, (-1)), (53, .ireturn, 1, 0), (54, .aload_n 0, 1, 0), (55, .getfield 84, 3, 0), (58, .aload_n 0, 1, 0), (59, .getfield 77, 3, 0), (62, .invokevirtual 326, 3, 0), (65, .iconst 1, 1, 1), (66, .istore_n 3, 1, 0), (67, .iload_n 3, 1, 0), (68, .sipush 200, 3, 200), (71, .if_icmp .gt 40, 3, 0), (74, .aload_n 0, 1, 0), (75, .getfield 84, 3, 0), (78, .getfield 273, 3, 0), (81, .getfield 329, 3, 0), (84, .istore 4, 2, 0), (86, .aload_n 0, 1, 0), (87, .getfield 84, 3, 0), (90, .invokevirtual 210, 3, 0), (93, .iload_n 2, 1, 0), (94, .if_icmp .ne 11, 3, 0), (97, .iload 4, 2, 0), (99, .iload_n 1, 1, 0), (100, .if_icmp .ne 5, 3, 0), (103, .iload_n 3, 1, 0), (104, .ireturn, 1, 0), (105, .iinc 3 1, 3, 1), (108, .goto (-41), 3, 0), (111, .iconst (-1), 1, (-1)), (112, .ireturn, 1, 0)], [(77, 11, 13, 2), (84, 11, 15, 4), (108, 8, 0, 4), (273, 8, 3, 4), (277, 1, 3, 1), (329, 1, 5, 0)], [(112, 0, 1, 1, f_Rw_hasCome), (132, 0, 1, 1, f_Ls_isIndex), (210, 0, 0, 1, f_St_advance), (323, 0, 1, 1, f_St_leftOf), (326, 0, 1, 0, f_St_becomeRisen)], [], [], [(0, [0, 1, 2]), (67, [0, 1, 2, 3])], [], 2)
def f_Ls_when : mm_F := fun args h => mm_ga [1, 1, 1] args (mm_gd 11 args h (mm_run p_Ls_when (mm_fu + 1) 0 args [] h))
set_option maxRecDepth 100000 in
theorem e_Ls_when_0 (f : Nat) (t : Nat) (v1 : Int32) (v2 : Int32) (h : mm_H) : mm_run p_Ls_when (f + 1) 0 [.ref t, .int v1, .int v2] [] h =
  (mm_gr 11 13 h t).bind fun r1 =>
  (mm_gr 8 3 h r1).bind fun r2 =>
  (mm_gi 1 3 h r2).bind fun x3 =>
  if x3 = 0 then
    some (some (.int (-1)), h)
  else
    mm_ci (f_Ls_isIndex [.ref t, .int v1] h) fun x5 h4 =>
    if x5 = 0 then
      some (some (.int (-1)), h4)
    else
      (mm_gr 11 13 h4 t).bind fun r6 =>
      (mm_gr 8 0 h4 r6).bind fun r7 =>
      mm_ci (f_Rw_hasCome [.ref r7, .int v2] h4) fun x9 h8 =>
      if x9 = 0 then
        some (some (.int (-1)), h8)
      else
        (mm_gr 11 13 h8 t).bind fun r10 =>
        mm_ci (f_St_leftOf [.ref r10, .int v1] h8) fun x12 h11 =>
        if ((x12 >>> (v2 &&& 31)) &&& 1) = 0 then
          some (some (.int (-1)), h11)
        else
          (mm_gr 11 15 h11 t).bind fun r13 =>
          (mm_gr 11 13 h11 t).bind fun r14 =>
          mm_cv (f_St_becomeRisen [.ref r13, .ref r14] h11) fun h15 =>
          mm_run p_Ls_when f 67 [.ref t, .int v1, .int v2, .int 1] [] h15 := rfl
theorem e_Ls_when (t : Nat) (v1 : Int32) (v2 : Int32) (h : mm_H) {fs : List Value} (hb : h t = some (.inr (11, fs))) : f_Ls_when [.ref t, .int v1, .int v2] h =
  (mm_gr 11 13 h t).bind fun r1 =>
  (mm_gr 8 3 h r1).bind fun r2 =>
  (mm_gi 1 3 h r2).bind fun x3 =>
  if x3 = 0 then
    some (some (.int (-1)), h)
  else
    mm_ci (f_Ls_isIndex [.ref t, .int v1] h) fun x5 h4 =>
    if x5 = 0 then
      some (some (.int (-1)), h4)
    else
      (mm_gr 11 13 h4 t).bind fun r6 =>
      (mm_gr 8 0 h4 r6).bind fun r7 =>
      mm_ci (f_Rw_hasCome [.ref r7, .int v2] h4) fun x9 h8 =>
      if x9 = 0 then
        some (some (.int (-1)), h8)
      else
        (mm_gr 11 13 h8 t).bind fun r10 =>
        mm_ci (f_St_leftOf [.ref r10, .int v1] h8) fun x12 h11 =>
        if ((x12 >>> (v2 &&& 31)) &&& 1) = 0 then
          some (some (.int (-1)), h11)
        else
          (mm_gr 11 15 h11 t).bind fun r13 =>
          (mm_gr 11 13 h11 t).bind fun r14 =>
          mm_cv (f_St_becomeRisen [.ref r13, .ref r14] h11) fun h15 =>
          mm_run p_Ls_when mm_fu 67 [.ref t, .int v1, .int v2, .int 1] [] h15 := (mm_ga_is rfl).trans ((mm_gd_is hb).trans (e_Ls_when_0 mm_fu t v1 v2 h))
set_option maxRecDepth 100000 in
theorem e_Ls_when_67 (f : Nat) (t : Nat) (v1 : Int32) (v2 : Int32) (v3 : Int32) (h : mm_H) : mm_run p_Ls_when (f + 1) 67 [.ref t, .int v1, .int v2, .int v3] [] h =
  if (200 : Int32) < v3 then
    some (some (.int (-1)), h)
  else
    (mm_gr 11 15 h t).bind fun r1 =>
    (mm_gr 8 3 h r1).bind fun r2 =>
    (mm_gi 1 5 h r2).bind fun x3 =>
    (mm_gr 11 15 h t).bind fun r4 =>
    mm_ci (f_St_advance [.ref r4] h) fun x6 h5 =>
    if x6 = v2 then
      if x3 = v1 then
        some (some (.int v3), h5)
      else
        mm_run p_Ls_when f 67 [.ref t, .int v1, .int v2, .int (v3 + 1)] [] h5
    else
      mm_run p_Ls_when f 67 [.ref t, .int v1, .int v2, .int (v3 + 1)] [] h5 := rfl
set_option maxRecDepth 100000 in
theorem i_Ls_when (l : Launch) : mm_Imp l yX11_when cX11_when 5 (some .int) 7 f_Ls_when := mm_imp l (P := p_Ls_when) mm_cls_ok mm_sys_ok (by decide) (mm_Pok_of (List.forall_mem_cons.mpr ⟨k_X11_77, (List.forall_mem_cons.mpr ⟨k_X11_84, (List.forall_mem_cons.mpr ⟨k_X11_108, (List.forall_mem_cons.mpr ⟨k_X11_273, (List.forall_mem_cons.mpr ⟨k_X11_277, (List.forall_mem_cons.mpr ⟨k_X11_329, (fun _ h => absurd h List.not_mem_nil)⟩)⟩)⟩)⟩)⟩)⟩) (List.forall_mem_cons.mpr ⟨v_Rw_hasCome l q_960 (by decide), (List.forall_mem_cons.mpr ⟨v_Ls_isIndex l q_974 (by decide), (List.forall_mem_cons.mpr ⟨v_St_advance l q_1227 (by decide), (List.forall_mem_cons.mpr ⟨v_St_leftOf l q_1464 (by decide), (List.forall_mem_cons.mpr ⟨v_St_becomeRisen l q_1469 (by decide), (fun _ h => absurd h List.not_mem_nil)⟩)⟩)⟩)⟩)⟩) (fun _ h => absurd h List.not_mem_nil) (fun _ h => absurd h List.not_mem_nil)) (by decide +kernel) rfl (cats := [1, 1, 1]) (fun as h r e => ⟨(mm_ga_inv e).1, (mm_gd_inv (mm_ga_inv e).2).1⟩) rfl (by decide)
theorem v_Ls_when (l : Launch) {own : String} {i n0 : Nat} (hl : Cond.methodLink own i yX11_when ∈ mm_tbl) (hn : 8 ≤ n0) : mm_cok l own n0 i (0, 2, 1, f_Ls_when) := Or.inr (Or.inr ⟨rfl, yX11_when, cX11_when, 5, (some .int), 7, 11, TX11, 16, i_Ls_when l, hn, by decide, by decide +kernel, rfl, fun _ _ _ e => (mm_gd_inv (mm_ga_inv e).2).2, hl, q_1461, q_1462, q_163, q_1463⟩)
def p_Ls_next : mm_P := ([(0, .aload_n 0, 1, 0), (1, .iload_n 1, 1, 0), (2, .invokevirtual 132, 3, 0), (5, .ifCond .ne 5, 3, 0), (8, .iconst (-1), 1, (-1)), (9, .ireturn, 1, 0), (10, .aload_n 0, 1, 0), (11, .getfield 77, 3, 0), (14, .invokevirtual 302, 3, 0), (17, .istore_n 3, 1, 0), (18, .aload_n 0, 1, 0), (19, .getfield 77, 3, 0), (22, .getfield 273, 3, 0), (25, .iload_n 1, 1, 0), (26, .invokevirtual 332, 3, 0), (29, .ifCond .eq 16, 3, 0), (32, .aload_n 0, 1, 0), (33, .getfield 77, 3, 0), (36, .getfield 273, 3, 0), (39, .getfield 335, 3, 0), (42, .goto 16, 3, 0), (45, .aload_n 0, 1, 0), (46, .getfield 77, 3, 0), (49, .getfield 135, 3, 0), (52, .iload_n 1, 1, 0), (53, .aaload, 1, 0), (54, .iload_n 3, 1, 0), (55, .invokevirtual 314, 3, 0), (58, .istore 4, 2, 0), (60, .aload_n 0, 1, 0), (61, .getfield 77, 3, 0), (64, .getfield 135, 3, 0), (67, .iload_n 1, 1, 0), (68, .aaload, 1, 0), (69, .iload_n 2, 1, 0), (70, .iload_n 3, 1, 0), (71, .iload 4, 2, 0), (73, .invokevirtual 338, 3, 0), (76, .ireturn, 1, 0)], [(77, 11, 13, 2), (135, 8, 2, 4), (273, 8, 3, 4), (335, 1, 6, 0)], [(132, 0, 1, 1, f_Ls_isIndex), (302, 0, 0, 1, f_St_doomed), (314, 0, 1, 1, f_Lv_wayFor), (332, 0, 1, 1, f_Jb_isAt), (338, 0, 3, 1, f_Lv_leftAt)], [], [], [(0, [0, 1, 2])], [], 2)
def f_Ls_next : mm_F := fun args h => mm_ga [1, 1, 1] args (mm_gd 11 args h (mm_run p_Ls_next (mm_fu + 1) 0 args [] h))
set_option maxRecDepth 100000 in
theorem e_Ls_next_0 (f : Nat) (t : Nat) (v1 : Int32) (v2 : Int32) (h : mm_H) : mm_run p_Ls_next (f + 1) 0 [.ref t, .int v1, .int v2] [] h =
  mm_ci (f_Ls_isIndex [.ref t, .int v1] h) fun x2 h1 =>
  if x2 = 0 then
    some (some (.int (-1)), h1)
  else
    (mm_gr 11 13 h1 t).bind fun r3 =>
    mm_ci (f_St_doomed [.ref r3] h1) fun x5 h4 =>
    (mm_gr 11 13 h4 t).bind fun r6 =>
    (mm_gr 8 3 h4 r6).bind fun r7 =>
    mm_ci (f_Jb_isAt [.ref r7, .int v1] h4) fun x9 h8 =>
    if x9 = 0 then
      (mm_gr 11 13 h8 t).bind fun r10 =>
      (mm_gr 8 2 h8 r10).bind fun r11 =>
      (mm_lr h8 r11 v1).bind fun r12 =>
      mm_ci (f_Lv_wayFor [.ref r12, .int x5] h8) fun x14 h13 =>
      (mm_gr 11 13 h13 t).bind fun r15 =>
      (mm_gr 8 2 h13 r15).bind fun r16 =>
      (mm_lr h13 r16 v1).bind fun r17 =>
      mm_ci (f_Lv_leftAt [.ref r17, .int v2, .int x5, .int x14] h13) fun x19 h18 =>
      some (some (.int x19), h18)
    else
      (mm_gr 11 13 h8 t).bind fun r20 =>
      (mm_gr 8 3 h8 r20).bind fun r21 =>
      (mm_gi 1 6 h8 r21).bind fun x22 =>
      (mm_gr 11 13 h8 t).bind fun r23 =>
      (mm_gr 8 2 h8 r23).bind fun r24 =>
      (mm_lr h8 r24 v1).bind fun r25 =>
      mm_ci (f_Lv_leftAt [.ref r25, .int v2, .int x5, .int x22] h8) fun x27 h26 =>
      some (some (.int x27), h26) := rfl
theorem e_Ls_next (t : Nat) (v1 : Int32) (v2 : Int32) (h : mm_H) {fs : List Value} (hb : h t = some (.inr (11, fs))) : f_Ls_next [.ref t, .int v1, .int v2] h =
  mm_ci (f_Ls_isIndex [.ref t, .int v1] h) fun x2 h1 =>
  if x2 = 0 then
    some (some (.int (-1)), h1)
  else
    (mm_gr 11 13 h1 t).bind fun r3 =>
    mm_ci (f_St_doomed [.ref r3] h1) fun x5 h4 =>
    (mm_gr 11 13 h4 t).bind fun r6 =>
    (mm_gr 8 3 h4 r6).bind fun r7 =>
    mm_ci (f_Jb_isAt [.ref r7, .int v1] h4) fun x9 h8 =>
    if x9 = 0 then
      (mm_gr 11 13 h8 t).bind fun r10 =>
      (mm_gr 8 2 h8 r10).bind fun r11 =>
      (mm_lr h8 r11 v1).bind fun r12 =>
      mm_ci (f_Lv_wayFor [.ref r12, .int x5] h8) fun x14 h13 =>
      (mm_gr 11 13 h13 t).bind fun r15 =>
      (mm_gr 8 2 h13 r15).bind fun r16 =>
      (mm_lr h13 r16 v1).bind fun r17 =>
      mm_ci (f_Lv_leftAt [.ref r17, .int v2, .int x5, .int x14] h13) fun x19 h18 =>
      some (some (.int x19), h18)
    else
      (mm_gr 11 13 h8 t).bind fun r20 =>
      (mm_gr 8 3 h8 r20).bind fun r21 =>
      (mm_gi 1 6 h8 r21).bind fun x22 =>
      (mm_gr 11 13 h8 t).bind fun r23 =>
      (mm_gr 8 2 h8 r23).bind fun r24 =>
      (mm_lr h8 r24 v1).bind fun r25 =>
      mm_ci (f_Lv_leftAt [.ref r25, .int v2, .int x5, .int x22] h8) fun x27 h26 =>
      some (some (.int x27), h26) := (mm_ga_is rfl).trans ((mm_gd_is hb).trans (e_Ls_next_0 mm_fu t v1 v2 h))
set_option maxRecDepth 100000 in
theorem i_Ls_next (l : Launch) : mm_Imp l yX11_next cX11_next 5 (some .int) 6 f_Ls_next := mm_imp l (P := p_Ls_next) mm_cls_ok mm_sys_ok (by decide) (mm_Pok_of (List.forall_mem_cons.mpr ⟨k_X11_77, (List.forall_mem_cons.mpr ⟨k_X11_135, (List.forall_mem_cons.mpr ⟨k_X11_273, (List.forall_mem_cons.mpr ⟨k_X11_335, (fun _ h => absurd h List.not_mem_nil)⟩)⟩)⟩)⟩) (List.forall_mem_cons.mpr ⟨v_Ls_isIndex l q_974 (by decide), (List.forall_mem_cons.mpr ⟨v_St_doomed l q_1433 (by decide), (List.forall_mem_cons.mpr ⟨v_Lv_wayFor l q_1443 (by decide), (List.forall_mem_cons.mpr ⟨v_Jb_isAt l q_1479 (by decide), (List.forall_mem_cons.mpr ⟨v_Lv_leftAt l q_1480 (by decide), (fun _ h => absurd h List.not_mem_nil)⟩)⟩)⟩)⟩)⟩) (fun _ h => absurd h List.not_mem_nil) (fun _ h => absurd h List.not_mem_nil)) (by decide +kernel) rfl (cats := [1, 1, 1]) (fun as h r e => ⟨(mm_ga_inv e).1, (mm_gd_inv (mm_ga_inv e).2).1⟩) rfl (by decide)
theorem v_Ls_next (l : Launch) {own : String} {i n0 : Nat} (hl : Cond.methodLink own i yX11_next ∈ mm_tbl) (hn : 7 ≤ n0) : mm_cok l own n0 i (0, 2, 1, f_Ls_next) := Or.inr (Or.inr ⟨rfl, yX11_next, cX11_next, 5, (some .int), 6, 11, TX11, 16, i_Ls_next l, hn, by decide, by decide +kernel, rfl, fun _ _ _ e => (mm_gd_inv (mm_ga_inv e).2).2, hl, q_1476, q_1477, q_163, q_1478⟩)
def p_Ls_job : mm_P := ([(0, .aload_n 0, 1, 0), (1, .getfield 77, 3, 0), (4, .getfield 273, 3, 0), (7, .getfield 277, 3, 0), (10, .ifCond .ne 5, 3, 0), (13, .iconst (-1), 1, (-1)), (14, .ireturn, 1, 0), (15, .iload_n 1, 1, 0), (16, .tableswitch 129 0 6 #[44, 55, 66, 77, 88, 99, 118], 44, 0), (60, .aload_n 0, 1, 0), (61, .getfield 77, 3, 0), (64, .getfield 273, 3, 0), (67, .getfield 329, 3, 0), (70, .ireturn, 1, 0), (71, .aload_n 0, 1, 0), (72, .getfield 77, 3, 0), (75, .getfield 273, 3, 0), (78, .getfield 335, 3, 0), (81, .ireturn, 1, 0), (82, .aload_n 0, 1, 0), (83, .getfield 77, 3, 0), (86, .getfield 108, 3, 0), (89, .getfield 125, 3, 0), (92, .ireturn, 1, 0), (93, .aload_n 0, 1, 0), (94, .getfield 77, 3, 0), (97, .getfield 273, 3, 0), (100, .getfield 341, 3, 0), (103, .ireturn, 1, 0), (104, .aload_n 0, 1, 0), (105, .getfield 77, 3, 0), (108, .getfield 273, 3, 0), (111, .getfield 344, 3, 0), (114, .ireturn, 1, 0), (115, .aload_n 0, 1, 0), (116, .getfield 77, 3, 0), (119, .getfield 273, 3, 0), (122, .getfield 347, 3, 0), (125, .ifCond .eq 7, 3, 0), (128, .iconst 1, 1, 1), (129, .goto 4, 3, 0), (132, .iconst 0, 1, 0), (133, .ireturn, 1, 0), (134, .aload_n 0, 1, 0), (135, .getfield 77, 3, 0), (138, .getfield 273, 3, 0), (141, .getfield 283, 3, 0), (144, .ireturn, 1, 0), (145, .iconst (-1), 1, (-1)), (146, .ireturn, 1, 0)], [(77, 11, 13, 2), (108, 8, 0, 4), (125, 7, 3, 0), (273, 8, 3, 4), (277, 1, 3, 1), (283, 1, 10, 0), (329, 1, 5, 0), (335, 1, 6, 0), (341, 1, 7, 0), (344, 1, 9, 0), (347, 1, 4, 1)], [], [], [], [(0, [0, 1])], [(16, [(0, 60), (1, 71), (2, 82), (3, 93), (4, 104), (5, 115), (6, 134)], 145)], 2)
def f_Ls_job : mm_F := fun args h => mm_ga [1, 1] args (mm_gd 11 args h (mm_run p_Ls_job (mm_fu + 1) 0 args [] h))
set_option maxRecDepth 100000 in
theorem e_Ls_job_0 (f : Nat) (t : Nat) (v1 : Int32) (h : mm_H) : mm_run p_Ls_job (f + 1) 0 [.ref t, .int v1] [] h =
  (mm_gr 11 13 h t).bind fun r1 =>
  (mm_gr 8 3 h r1).bind fun r2 =>
  (mm_gi 1 3 h r2).bind fun x3 =>
  if x3 = 0 then
    some (some (.int (-1)), h)
  else
    if v1 = 0 then
      (mm_gr 11 13 h t).bind fun r4 =>
      (mm_gr 8 3 h r4).bind fun r5 =>
      (mm_gi 1 5 h r5).bind fun x6 =>
      some (some (.int x6), h)
    else if v1 = 1 then
      (mm_gr 11 13 h t).bind fun r7 =>
      (mm_gr 8 3 h r7).bind fun r8 =>
      (mm_gi 1 6 h r8).bind fun x9 =>
      some (some (.int x9), h)
    else if v1 = 2 then
      (mm_gr 11 13 h t).bind fun r10 =>
      (mm_gr 8 0 h r10).bind fun r11 =>
      (mm_gi 7 3 h r11).bind fun x12 =>
      some (some (.int x12), h)
    else if v1 = 3 then
      (mm_gr 11 13 h t).bind fun r13 =>
      (mm_gr 8 3 h r13).bind fun r14 =>
      (mm_gi 1 7 h r14).bind fun x15 =>
      some (some (.int x15), h)
    else if v1 = 4 then
      (mm_gr 11 13 h t).bind fun r16 =>
      (mm_gr 8 3 h r16).bind fun r17 =>
      (mm_gi 1 9 h r17).bind fun x18 =>
      some (some (.int x18), h)
    else if v1 = 5 then
      (mm_gr 11 13 h t).bind fun r19 =>
      (mm_gr 8 3 h r19).bind fun r20 =>
      (mm_gi 1 4 h r20).bind fun x21 =>
      if x21 = 0 then
        some (some (.int 0), h)
      else
        some (some (.int 1), h)
    else if v1 = 6 then
      (mm_gr 11 13 h t).bind fun r22 =>
      (mm_gr 8 3 h r22).bind fun r23 =>
      (mm_gi 1 10 h r23).bind fun x24 =>
      some (some (.int x24), h)
    else 
      some (some (.int (-1)), h) := rfl
theorem e_Ls_job (t : Nat) (v1 : Int32) (h : mm_H) {fs : List Value} (hb : h t = some (.inr (11, fs))) : f_Ls_job [.ref t, .int v1] h =
  (mm_gr 11 13 h t).bind fun r1 =>
  (mm_gr 8 3 h r1).bind fun r2 =>
  (mm_gi 1 3 h r2).bind fun x3 =>
  if x3 = 0 then
    some (some (.int (-1)), h)
  else
    if v1 = 0 then
      (mm_gr 11 13 h t).bind fun r4 =>
      (mm_gr 8 3 h r4).bind fun r5 =>
      (mm_gi 1 5 h r5).bind fun x6 =>
      some (some (.int x6), h)
    else if v1 = 1 then
      (mm_gr 11 13 h t).bind fun r7 =>
      (mm_gr 8 3 h r7).bind fun r8 =>
      (mm_gi 1 6 h r8).bind fun x9 =>
      some (some (.int x9), h)
    else if v1 = 2 then
      (mm_gr 11 13 h t).bind fun r10 =>
      (mm_gr 8 0 h r10).bind fun r11 =>
      (mm_gi 7 3 h r11).bind fun x12 =>
      some (some (.int x12), h)
    else if v1 = 3 then
      (mm_gr 11 13 h t).bind fun r13 =>
      (mm_gr 8 3 h r13).bind fun r14 =>
      (mm_gi 1 7 h r14).bind fun x15 =>
      some (some (.int x15), h)
    else if v1 = 4 then
      (mm_gr 11 13 h t).bind fun r16 =>
      (mm_gr 8 3 h r16).bind fun r17 =>
      (mm_gi 1 9 h r17).bind fun x18 =>
      some (some (.int x18), h)
    else if v1 = 5 then
      (mm_gr 11 13 h t).bind fun r19 =>
      (mm_gr 8 3 h r19).bind fun r20 =>
      (mm_gi 1 4 h r20).bind fun x21 =>
      if x21 = 0 then
        some (some (.int 0), h)
      else
        some (some (.int 1), h)
    else if v1 = 6 then
      (mm_gr 11 13 h t).bind fun r22 =>
      (mm_gr 8 3 h r22).bind fun r23 =>
      (mm_gi 1 10 h r23).bind fun x24 =>
      some (some (.int x24), h)
    else 
      some (some (.int (-1)), h) := (mm_ga_is rfl).trans ((mm_gd_is hb).trans (e_Ls_job_0 mm_fu t v1 h))
set_option maxRecDepth 100000 in
theorem i_Ls_job (l : Launch) : mm_Imp l yX11_job cX11_job 2 (some .int) 1 f_Ls_job := mm_imp l (P := p_Ls_job) mm_cls_ok mm_sys_ok (by decide) (mm_Pok_of (List.forall_mem_cons.mpr ⟨k_X11_77, (List.forall_mem_cons.mpr ⟨k_X11_108, (List.forall_mem_cons.mpr ⟨k_X11_125, (List.forall_mem_cons.mpr ⟨k_X11_273, (List.forall_mem_cons.mpr ⟨k_X11_277, (List.forall_mem_cons.mpr ⟨k_X11_283, (List.forall_mem_cons.mpr ⟨k_X11_329, (List.forall_mem_cons.mpr ⟨k_X11_335, (List.forall_mem_cons.mpr ⟨k_X11_341, (List.forall_mem_cons.mpr ⟨k_X11_344, (List.forall_mem_cons.mpr ⟨k_X11_347, (fun _ h => absurd h List.not_mem_nil)⟩)⟩)⟩)⟩)⟩)⟩)⟩)⟩)⟩)⟩)⟩) (fun _ h => absurd h List.not_mem_nil) (fun _ h => absurd h List.not_mem_nil) (fun _ h => absurd h List.not_mem_nil)) (by decide +kernel) rfl (cats := [1, 1]) (fun as h r e => ⟨(mm_ga_inv e).1, (mm_gd_inv (mm_ga_inv e).2).1⟩) rfl (by decide)
theorem v_Ls_job (l : Launch) {own : String} {i n0 : Nat} (hl : Cond.methodLink own i yX11_job ∈ mm_tbl) (hn : 2 ≤ n0) : mm_cok l own n0 i (0, 1, 1, f_Ls_job) := Or.inr (Or.inr ⟨rfl, yX11_job, cX11_job, 2, (some .int), 1, 11, TX11, 16, i_Ls_job l, hn, by decide, by decide +kernel, rfl, fun _ _ _ e => (mm_gd_inv (mm_ga_inv e).2).2, hl, q_1482, q_1483, q_163, q_1484⟩)
def p_Ls_record : mm_P := ([(0, .aload_n 0, 1, 0), (1, .getfield 77, 3, 0), (4, .getfield 273, 3, 0), (7, .getfield 277, 3, 0), (10, .ifCond .eq 30, 3, 0), (13, .iload_n 1, 1, 0), (14, .ifCond .lt 26, 3, 0), (17, .iload_n 1, 1, 0), (18, .aload_n 0, 1, 0), (19, .getfield 77, 3, 0), (22, .getfield 273, 3, 0), (25, .getfield 344, 3, 0), (28, .if_icmp .ge 12, 3, 0), (31, .iload_n 2, 1, 0), (32, .ifCond .lt 8, 3, 0), (35, .iload_n 2, 1, 0), (36, .iconst 3, 1, 3), (37, .if_icmp .lt 5, 3, 0), (40, .iconst (-1), 1, (-1)), (41, .ireturn, 1, 0), (42, .aload_n 0, 1, 0), (43, .getfield 77, 3, 0), (46, .getfield 273, 3, 0), (49, .getfield 350, 3, 0), (52, .iload_n 1, 1, 0), (53, .iconst 3, 1, 3), (54, .imul, 1, 0), (55, .iload_n 2, 1, 0), (56, .iadd, 1, 0), (57, .iaload, 1, 0), (58, .ireturn, 1, 0)], [(77, 11, 13, 2), (273, 8, 3, 4), (277, 1, 3, 1), (344, 1, 9, 0), (350, 1, 0, 4)], [], [], [], [(0, [0, 1, 2])], [], 2)
def f_Ls_record : mm_F := fun args h => mm_ga [1, 1, 1] args (mm_gd 11 args h (mm_run p_Ls_record (mm_fu + 1) 0 args [] h))
set_option maxRecDepth 100000 in
theorem e_Ls_record_0 (f : Nat) (t : Nat) (v1 : Int32) (v2 : Int32) (h : mm_H) : mm_run p_Ls_record (f + 1) 0 [.ref t, .int v1, .int v2] [] h =
  (mm_gr 11 13 h t).bind fun r1 =>
  (mm_gr 8 3 h r1).bind fun r2 =>
  (mm_gi 1 3 h r2).bind fun x3 =>
  if x3 = 0 then
    some (some (.int (-1)), h)
  else
    if v1 < 0 then
      some (some (.int (-1)), h)
    else
      (mm_gr 11 13 h t).bind fun r4 =>
      (mm_gr 8 3 h r4).bind fun r5 =>
      (mm_gi 1 9 h r5).bind fun x6 =>
      if v1 < x6 then
        if v2 < 0 then
          some (some (.int (-1)), h)
        else
          if v2 < 3 then
            (mm_gr 11 13 h t).bind fun r7 =>
            (mm_gr 8 3 h r7).bind fun r8 =>
            (mm_gr 1 0 h r8).bind fun r9 =>
            (mm_li h r9 ((v1 * 3) + v2)).bind fun x10 =>
            some (some (.int x10), h)
          else
            some (some (.int (-1)), h)
      else
        some (some (.int (-1)), h) := rfl
theorem e_Ls_record (t : Nat) (v1 : Int32) (v2 : Int32) (h : mm_H) {fs : List Value} (hb : h t = some (.inr (11, fs))) : f_Ls_record [.ref t, .int v1, .int v2] h =
  (mm_gr 11 13 h t).bind fun r1 =>
  (mm_gr 8 3 h r1).bind fun r2 =>
  (mm_gi 1 3 h r2).bind fun x3 =>
  if x3 = 0 then
    some (some (.int (-1)), h)
  else
    if v1 < 0 then
      some (some (.int (-1)), h)
    else
      (mm_gr 11 13 h t).bind fun r4 =>
      (mm_gr 8 3 h r4).bind fun r5 =>
      (mm_gi 1 9 h r5).bind fun x6 =>
      if v1 < x6 then
        if v2 < 0 then
          some (some (.int (-1)), h)
        else
          if v2 < 3 then
            (mm_gr 11 13 h t).bind fun r7 =>
            (mm_gr 8 3 h r7).bind fun r8 =>
            (mm_gr 1 0 h r8).bind fun r9 =>
            (mm_li h r9 ((v1 * 3) + v2)).bind fun x10 =>
            some (some (.int x10), h)
          else
            some (some (.int (-1)), h)
      else
        some (some (.int (-1)), h) := (mm_ga_is rfl).trans ((mm_gd_is hb).trans (e_Ls_record_0 mm_fu t v1 v2 h))
set_option maxRecDepth 100000 in
theorem i_Ls_record (l : Launch) : mm_Imp l yX11_record cX11_record 3 (some .int) 1 f_Ls_record := mm_imp l (P := p_Ls_record) mm_cls_ok mm_sys_ok (by decide) (mm_Pok_of (List.forall_mem_cons.mpr ⟨k_X11_77, (List.forall_mem_cons.mpr ⟨k_X11_273, (List.forall_mem_cons.mpr ⟨k_X11_277, (List.forall_mem_cons.mpr ⟨k_X11_344, (List.forall_mem_cons.mpr ⟨k_X11_350, (fun _ h => absurd h List.not_mem_nil)⟩)⟩)⟩)⟩)⟩) (fun _ h => absurd h List.not_mem_nil) (fun _ h => absurd h List.not_mem_nil) (fun _ h => absurd h List.not_mem_nil)) (by decide +kernel) rfl (cats := [1, 1, 1]) (fun as h r e => ⟨(mm_ga_inv e).1, (mm_gd_inv (mm_ga_inv e).2).1⟩) rfl (by decide)
theorem v_Ls_record (l : Launch) {own : String} {i n0 : Nat} (hl : Cond.methodLink own i yX11_record ∈ mm_tbl) (hn : 2 ≤ n0) : mm_cok l own n0 i (0, 2, 1, f_Ls_record) := Or.inr (Or.inr ⟨rfl, yX11_record, cX11_record, 3, (some .int), 1, 11, TX11, 16, i_Ls_record l, hn, by decide, by decide +kernel, rfl, fun _ _ _ e => (mm_gd_inv (mm_ga_inv e).2).2, hl, q_1486, q_1487, q_163, q_1488⟩)
def p_Ls_steps : mm_P := ([(0, .aload_n 0, 1, 0), (1, .getfield 77, 3, 0), (4, .getfield 273, 3, 0), (7, .getfield 277, 3, 0), (10, .ifCond .ne 5, 3, 0), (13, .iconst (-1), 1, (-1)), (14, .ireturn, 1, 0), (15, .iconst 0, 1, 0), (16, .istore_n 1, 1, 0), (17, .iconst 0, 1, 0), (18, .istore_n 2, 1, 0), (19, .iload_n 2, 1, 0), (20, .aload_n 0, 1, 0), (21, .getfield 57, 3, 0), (24, .getfield 311, 3, 0), (27, .if_icmp .ge 23, 3, 0), (30, .iload_n 1, 1, 0), (31, .aload_n 0, 1, 0), (32, .getfield 77, 3, 0), (35, .iload_n 2, 1, 0), (36, .invokevirtual 323, 3, 0), (39, .invokestatic 205, 3, 0), (42, .iadd, 1, 0), (43, .istore_n 1, 1, 0), (44, .iinc 2 1, 3, 1), (47, .goto (-28), 3, 0), (50, .iload_n 1, 1, 0), (51, .iconst 1, 1, 1), (52, .iadd, 1, 0), (53, .ireturn, 1, 0)], [(57, 11, 9, 2), (77, 11, 13, 2), (273, 8, 3, 4), (277, 1, 3, 1), (311, 4, 10, 0)], [(205, 1, 1, 1, f_Ji_bitCount), (323, 0, 1, 1, f_St_leftOf)], [], [], [(0, [0]), (19, [0, 1, 2])], [], 2)
def f_Ls_steps : mm_F := fun args h => mm_ga [1] args (mm_gd 11 args h (mm_run p_Ls_steps (mm_fu + 1) 0 args [] h))
set_option maxRecDepth 100000 in
theorem e_Ls_steps_0 (f : Nat) (t : Nat) (h : mm_H) : mm_run p_Ls_steps (f + 1) 0 [.ref t] [] h =
  (mm_gr 11 13 h t).bind fun r1 =>
  (mm_gr 8 3 h r1).bind fun r2 =>
  (mm_gi 1 3 h r2).bind fun x3 =>
  if x3 = 0 then
    some (some (.int (-1)), h)
  else
    mm_run p_Ls_steps f 19 [.ref t, .int 0, .int 0] [] h := rfl
theorem e_Ls_steps (t : Nat) (h : mm_H) {fs : List Value} (hb : h t = some (.inr (11, fs))) : f_Ls_steps [.ref t] h =
  (mm_gr 11 13 h t).bind fun r1 =>
  (mm_gr 8 3 h r1).bind fun r2 =>
  (mm_gi 1 3 h r2).bind fun x3 =>
  if x3 = 0 then
    some (some (.int (-1)), h)
  else
    mm_run p_Ls_steps mm_fu 19 [.ref t, .int 0, .int 0] [] h := (mm_ga_is rfl).trans ((mm_gd_is hb).trans (e_Ls_steps_0 mm_fu t h))
set_option maxRecDepth 100000 in
theorem e_Ls_steps_19 (f : Nat) (t : Nat) (v1 : Int32) (v2 : Int32) (h : mm_H) : mm_run p_Ls_steps (f + 1) 19 [.ref t, .int v1, .int v2] [] h =
  (mm_gr 11 9 h t).bind fun r1 =>
  (mm_gi 4 10 h r1).bind fun x2 =>
  if v2 < x2 then
    (mm_gr 11 13 h t).bind fun r3 =>
    mm_ci (f_St_leftOf [.ref r3, .int v2] h) fun x5 h4 =>
    mm_ci (f_Ji_bitCount [.int x5] h4) fun x7 h6 =>
    mm_run p_Ls_steps f 19 [.ref t, .int (v1 + x7), .int (v2 + 1)] [] h6
  else
    some (some (.int (v1 + 1)), h) := rfl
set_option maxRecDepth 100000 in
theorem i_Ls_steps (l : Launch) : mm_Imp l yX11_steps cX11_steps 3 (some .int) 7 f_Ls_steps := mm_imp l (P := p_Ls_steps) mm_cls_ok mm_sys_ok (by decide) (mm_Pok_of (List.forall_mem_cons.mpr ⟨k_X11_57, (List.forall_mem_cons.mpr ⟨k_X11_77, (List.forall_mem_cons.mpr ⟨k_X11_273, (List.forall_mem_cons.mpr ⟨k_X11_277, (List.forall_mem_cons.mpr ⟨k_X11_311, (fun _ h => absurd h List.not_mem_nil)⟩)⟩)⟩)⟩)⟩) (List.forall_mem_cons.mpr ⟨v_Ji_bitCount l (Or.inl q_1222) (by decide), (List.forall_mem_cons.mpr ⟨v_St_leftOf l q_1464 (by decide), (fun _ h => absurd h List.not_mem_nil)⟩)⟩) (fun _ h => absurd h List.not_mem_nil) (fun _ h => absurd h List.not_mem_nil)) (by decide +kernel) rfl (cats := [1]) (fun as h r e => ⟨(mm_ga_inv e).1, (mm_gd_inv (mm_ga_inv e).2).1⟩) rfl (by decide)
theorem v_Ls_steps (l : Launch) {own : String} {i n0 : Nat} (hl : Cond.methodLink own i yX11_steps ∈ mm_tbl) (hn : 8 ≤ n0) : mm_cok l own n0 i (0, 0, 1, f_Ls_steps) := Or.inr (Or.inr ⟨rfl, yX11_steps, cX11_steps, 3, (some .int), 7, 11, TX11, 16, i_Ls_steps l, hn, by decide, by decide +kernel, rfl, fun _ _ _ e => (mm_gd_inv (mm_ga_inv e).2).2, hl, q_1490, q_1491, q_163, q_1492⟩)
def p_Ls_after : mm_P := ([(0, .iload_n 1, 1, 0), (1, .ifCond .lt 19, 3, 0), (4, .iload_n 1, 1, 0), (5, .sipush 150, 3, 150), (8, .if_icmp .gt 12, 3, 0), (11, .iload_n 2, 1, 0), (12, .ifCond .lt 8, 3, 0), (15, .iload_n 2, 1, 0), (16, .iconst 3, 1, 3), (17, .if_icmp .le 6, 3, 0), (20, .bipush (-2), 2, (-2)), (22, .ireturn, 1, 0), (23, .aload_n 0, 1, 0), (24, .getfield 84, 3, 0), (27, .aload_n 0, 1, 0), (28, .getfield 77, 3, 0), (31, .invokevirtual 326, 3, 0), (34, .aload_n 0, 1, 0), (35, .getfield 84, 3, 0), (38, .iload_n 1, 1, 0), (39, .invokevirtual 353, 3, 0), (42, .pop, 1, 0), (43, .iload_n 2, 1, 0), (44, .tableswitch 72 0 2 #[28, 56, 64], 28, 0), (72, .aload_n 0, 1, 0), (73, .getfield 84, 3, 0), (76, .getfield 273, 3, 0), (79, .getfield 277, 3, 0), (82, .ifCond .eq 16, 3, 0), (85, .aload_n 0, 1, 0), (86, .getfield 84, 3, 0), (89, .getfield 273, 3, 0), (92, .getfield 329, 3, 0), (95, .goto 4, 3, 0), (98, .iconst (-1), 1, (-1)), (99, .ireturn, 1, 0), (100, .aload_n 0, 1, 0), (101, .getfield 84, 3, 0), (104, .getfield 236, 3, 0), (107, .ireturn, 1, 0), (108, .aload_n 0, 1, 0), (109, .getfield 84, 3, 0), (112, .invokevirtual 356, 3, 0), (115, .ireturn, 1, 0), (116, .aload_n 0, 1, 0), (117, .getfield 84, 3, 0), (120, .getfield 273, 3, 0), (123, .getfield 277, 3, 0), (126, .ifCond .eq 16, 3, 0), (129, .aload_n 0, 1, 0), (130, .getfield 84, 3, 0), (133, .getfield 273, 3, 0), (136, .getfield 344, 3, 0), (139, .goto 4, 3, 0), (142, .iconst 0, 1, 0), (143, .ireturn, 1, 0)], [(77, 11, 13, 2), (84, 11, 15, 4), (236, 8, 8, 0), (273, 8, 3, 4), (277, 1, 3, 1), (329, 1, 5, 0), (344, 1, 9, 0)], [(326, 0, 1, 0, f_St_becomeRisen), (353, 0, 1, 1, f_St_advanceBy), (356, 0, 0, 1, f_St_leavesOfAll)], [], [], [(0, [0, 1, 2])], [(44, [(0, 72), (1, 100), (2, 108)], 116)], 2)
def f_Ls_after : mm_F := fun args h => mm_ga [1, 1, 1] args (mm_gd 11 args h (mm_run p_Ls_after (mm_fu + 1) 0 args [] h))
set_option maxRecDepth 100000 in
theorem e_Ls_after_0 (f : Nat) (t : Nat) (v1 : Int32) (v2 : Int32) (h : mm_H) : mm_run p_Ls_after (f + 1) 0 [.ref t, .int v1, .int v2] [] h =
  if v1 < 0 then
    some (some (.int (-2)), h)
  else
    if (150 : Int32) < v1 then
      some (some (.int (-2)), h)
    else
      if v2 < 0 then
        some (some (.int (-2)), h)
      else
        if (3 : Int32) < v2 then
          some (some (.int (-2)), h)
        else
          (mm_gr 11 15 h t).bind fun r1 =>
          (mm_gr 11 13 h t).bind fun r2 =>
          mm_cv (f_St_becomeRisen [.ref r1, .ref r2] h) fun h3 =>
          (mm_gr 11 15 h3 t).bind fun r4 =>
          mm_ci (f_St_advanceBy [.ref r4, .int v1] h3) fun x6 h5 =>
          if v2 = 0 then
            (mm_gr 11 15 h5 t).bind fun r7 =>
            (mm_gr 8 3 h5 r7).bind fun r8 =>
            (mm_gi 1 3 h5 r8).bind fun x9 =>
            if x9 = 0 then
              some (some (.int (-1)), h5)
            else
              (mm_gr 11 15 h5 t).bind fun r10 =>
              (mm_gr 8 3 h5 r10).bind fun r11 =>
              (mm_gi 1 5 h5 r11).bind fun x12 =>
              some (some (.int x12), h5)
          else if v2 = 1 then
            (mm_gr 11 15 h5 t).bind fun r13 =>
            (mm_gi 8 8 h5 r13).bind fun x14 =>
            some (some (.int x14), h5)
          else if v2 = 2 then
            (mm_gr 11 15 h5 t).bind fun r15 =>
            mm_ci (f_St_leavesOfAll [.ref r15] h5) fun x17 h16 =>
            some (some (.int x17), h16)
          else 
            (mm_gr 11 15 h5 t).bind fun r18 =>
            (mm_gr 8 3 h5 r18).bind fun r19 =>
            (mm_gi 1 3 h5 r19).bind fun x20 =>
            if x20 = 0 then
              some (some (.int 0), h5)
            else
              (mm_gr 11 15 h5 t).bind fun r21 =>
              (mm_gr 8 3 h5 r21).bind fun r22 =>
              (mm_gi 1 9 h5 r22).bind fun x23 =>
              some (some (.int x23), h5) := rfl
theorem e_Ls_after (t : Nat) (v1 : Int32) (v2 : Int32) (h : mm_H) {fs : List Value} (hb : h t = some (.inr (11, fs))) : f_Ls_after [.ref t, .int v1, .int v2] h =
  if v1 < 0 then
    some (some (.int (-2)), h)
  else
    if (150 : Int32) < v1 then
      some (some (.int (-2)), h)
    else
      if v2 < 0 then
        some (some (.int (-2)), h)
      else
        if (3 : Int32) < v2 then
          some (some (.int (-2)), h)
        else
          (mm_gr 11 15 h t).bind fun r1 =>
          (mm_gr 11 13 h t).bind fun r2 =>
          mm_cv (f_St_becomeRisen [.ref r1, .ref r2] h) fun h3 =>
          (mm_gr 11 15 h3 t).bind fun r4 =>
          mm_ci (f_St_advanceBy [.ref r4, .int v1] h3) fun x6 h5 =>
          if v2 = 0 then
            (mm_gr 11 15 h5 t).bind fun r7 =>
            (mm_gr 8 3 h5 r7).bind fun r8 =>
            (mm_gi 1 3 h5 r8).bind fun x9 =>
            if x9 = 0 then
              some (some (.int (-1)), h5)
            else
              (mm_gr 11 15 h5 t).bind fun r10 =>
              (mm_gr 8 3 h5 r10).bind fun r11 =>
              (mm_gi 1 5 h5 r11).bind fun x12 =>
              some (some (.int x12), h5)
          else if v2 = 1 then
            (mm_gr 11 15 h5 t).bind fun r13 =>
            (mm_gi 8 8 h5 r13).bind fun x14 =>
            some (some (.int x14), h5)
          else if v2 = 2 then
            (mm_gr 11 15 h5 t).bind fun r15 =>
            mm_ci (f_St_leavesOfAll [.ref r15] h5) fun x17 h16 =>
            some (some (.int x17), h16)
          else 
            (mm_gr 11 15 h5 t).bind fun r18 =>
            (mm_gr 8 3 h5 r18).bind fun r19 =>
            (mm_gi 1 3 h5 r19).bind fun x20 =>
            if x20 = 0 then
              some (some (.int 0), h5)
            else
              (mm_gr 11 15 h5 t).bind fun r21 =>
              (mm_gr 8 3 h5 r21).bind fun r22 =>
              (mm_gi 1 9 h5 r22).bind fun x23 =>
              some (some (.int x23), h5) := (mm_ga_is rfl).trans ((mm_gd_is hb).trans (e_Ls_after_0 mm_fu t v1 v2 h))
set_option maxRecDepth 100000 in
theorem i_Ls_after (l : Launch) : mm_Imp l yX11_after cX11_after 3 (some .int) 6 f_Ls_after := mm_imp l (P := p_Ls_after) mm_cls_ok mm_sys_ok (by decide) (mm_Pok_of (List.forall_mem_cons.mpr ⟨k_X11_77, (List.forall_mem_cons.mpr ⟨k_X11_84, (List.forall_mem_cons.mpr ⟨k_X11_236, (List.forall_mem_cons.mpr ⟨k_X11_273, (List.forall_mem_cons.mpr ⟨k_X11_277, (List.forall_mem_cons.mpr ⟨k_X11_329, (List.forall_mem_cons.mpr ⟨k_X11_344, (fun _ h => absurd h List.not_mem_nil)⟩)⟩)⟩)⟩)⟩)⟩)⟩) (List.forall_mem_cons.mpr ⟨v_St_becomeRisen l q_1469 (by decide), (List.forall_mem_cons.mpr ⟨v_St_advanceBy l q_1497 (by decide), (List.forall_mem_cons.mpr ⟨v_St_leavesOfAll l q_1498 (by decide), (fun _ h => absurd h List.not_mem_nil)⟩)⟩)⟩) (fun _ h => absurd h List.not_mem_nil) (fun _ h => absurd h List.not_mem_nil)) (by decide +kernel) rfl (cats := [1, 1, 1]) (fun as h r e => ⟨(mm_ga_inv e).1, (mm_gd_inv (mm_ga_inv e).2).1⟩) rfl (by decide)
theorem v_Ls_after (l : Launch) {own : String} {i n0 : Nat} (hl : Cond.methodLink own i yX11_after ∈ mm_tbl) (hn : 7 ≤ n0) : mm_cok l own n0 i (0, 2, 1, f_Ls_after) := Or.inr (Or.inr ⟨rfl, yX11_after, cX11_after, 3, (some .int), 6, 11, TX11, 16, i_Ls_after l, hn, by decide, by decide +kernel, rfl, fun _ _ _ e => (mm_gd_inv (mm_ga_inv e).2).2, hl, q_1494, q_1495, q_163, q_1496⟩)
def p_Ls_during : mm_P := ([(0, .iload_n 1, 1, 0), (1, .ifCond .lt 31, 3, 0), (4, .iload_n 1, 1, 0), (5, .sipush 150, 3, 150), (8, .if_icmp .gt 24, 3, 0), (11, .iload 5, 2, 0), (13, .ifCond .lt 19, 3, 0), (16, .iload 5, 2, 0), (18, .iconst 2, 1, 2), (19, .if_icmp .gt 13, 3, 0), (22, .iload_n 2, 1, 0), (23, .iload_n 3, 1, 0), (24, .iload 4, 2, 0), (26, .invokestatic 359, 3, 0), (29, .ifCond .ne 6, 3, 0), (32, .bipush (-2), 2, (-2)), (34, .ireturn, 1, 0), (35, .aload_n 0, 1, 0), (36, .getfield 84, 3, 0), (39, .aload_n 0, 1, 0), (40, .getfield 77, 3, 0), (43, .invokevirtual 326, 3, 0), (46, .aload_n 0, 1, 0), (47, .getfield 84, 3, 0), (50, .iload_n 1, 1, 0), (51, .invokevirtual 353, 3, 0), (54, .pop, 1, 0), (55, .aload_n 0, 1, 0), (56, .getfield 84, 3, 0), (59, .iload_n 2, 1, 0), (60, .iload_n 3, 1, 0), (61, .iload 4, 2, 0), (63, .invokevirtual 178, 3, 0), (66, .istore 6, 2, 0), (68, .aload_n 0, 1, 0), (69, .getfield 84, 3, 0), (72, .sipush 200, 3, 200), (75, .invokevirtual 353, 3, 0), (78, .pop, 1, 0), (79, .iload 5, 2, 0), (81, .lookupswitch 38 #[(0, 27), (1, 30)], 27, 0), (108, .iload 6, 2, 0), (110, .ireturn, 1, 0), (111, .aload_n 0, 1, 0), (112, .getfield 84, 3, 0), (115, .getfield 236, 3, 0), (118, .ireturn, 1, 0), (119, .aload_n 0, 1, 0), (120, .getfield 84, 3, 0), (123, .invokevirtual 356, 3, 0), (126, .ireturn, 1, 0)], [(77, 11, 13, 2), (84, 11, 15, 4), (236, 8, 8, 0)], [(178, 0, 3, 1, f_St_admit), (326, 0, 1, 0, f_St_becomeRisen), (353, 0, 1, 1, f_St_advanceBy), (356, 0, 0, 1, f_St_leavesOfAll), (359, 1, 3, 1, f_Ls_areValues)], [], [], [(0, [0, 1, 2, 3, 4, 5])], [(81, [(0, 108), (1, 111)], 119)], 2)
def f_Ls_during : mm_F := fun args h => mm_ga [1, 1, 1, 1, 1, 1] args (mm_gd 11 args h (mm_run p_Ls_during (mm_fu + 1) 0 args [] h))
set_option maxRecDepth 100000 in
theorem e_Ls_during_0 (f : Nat) (t : Nat) (v1 : Int32) (v2 : Int32) (v3 : Int32) (v4 : Int32) (v5 : Int32) (h : mm_H) : mm_run p_Ls_during (f + 1) 0 [.ref t, .int v1, .int v2, .int v3, .int v4, .int v5] [] h =
  if v1 < 0 then
    some (some (.int (-2)), h)
  else
    if (150 : Int32) < v1 then
      some (some (.int (-2)), h)
    else
      if v5 < 0 then
        some (some (.int (-2)), h)
      else
        if (2 : Int32) < v5 then
          some (some (.int (-2)), h)
        else
          mm_ci (f_Ls_areValues [.int v2, .int v3, .int v4] h) fun x2 h1 =>
          if x2 = 0 then
            some (some (.int (-2)), h1)
          else
            (mm_gr 11 15 h1 t).bind fun r3 =>
            (mm_gr 11 13 h1 t).bind fun r4 =>
            mm_cv (f_St_becomeRisen [.ref r3, .ref r4] h1) fun h5 =>
            (mm_gr 11 15 h5 t).bind fun r6 =>
            mm_ci (f_St_advanceBy [.ref r6, .int v1] h5) fun x8 h7 =>
            (mm_gr 11 15 h7 t).bind fun r9 =>
            mm_ci (f_St_admit [.ref r9, .int v2, .int v3, .int v4] h7) fun x11 h10 =>
            (mm_gr 11 15 h10 t).bind fun r12 =>
            mm_ci (f_St_advanceBy [.ref r12, .int 200] h10) fun x14 h13 =>
            if v5 = 0 then
              some (some (.int x11), h13)
            else if v5 = 1 then
              (mm_gr 11 15 h13 t).bind fun r15 =>
              (mm_gi 8 8 h13 r15).bind fun x16 =>
              some (some (.int x16), h13)
            else 
              (mm_gr 11 15 h13 t).bind fun r17 =>
              mm_ci (f_St_leavesOfAll [.ref r17] h13) fun x19 h18 =>
              some (some (.int x19), h18) := rfl
theorem e_Ls_during (t : Nat) (v1 : Int32) (v2 : Int32) (v3 : Int32) (v4 : Int32) (v5 : Int32) (h : mm_H) {fs : List Value} (hb : h t = some (.inr (11, fs))) : f_Ls_during [.ref t, .int v1, .int v2, .int v3, .int v4, .int v5] h =
  if v1 < 0 then
    some (some (.int (-2)), h)
  else
    if (150 : Int32) < v1 then
      some (some (.int (-2)), h)
    else
      if v5 < 0 then
        some (some (.int (-2)), h)
      else
        if (2 : Int32) < v5 then
          some (some (.int (-2)), h)
        else
          mm_ci (f_Ls_areValues [.int v2, .int v3, .int v4] h) fun x2 h1 =>
          if x2 = 0 then
            some (some (.int (-2)), h1)
          else
            (mm_gr 11 15 h1 t).bind fun r3 =>
            (mm_gr 11 13 h1 t).bind fun r4 =>
            mm_cv (f_St_becomeRisen [.ref r3, .ref r4] h1) fun h5 =>
            (mm_gr 11 15 h5 t).bind fun r6 =>
            mm_ci (f_St_advanceBy [.ref r6, .int v1] h5) fun x8 h7 =>
            (mm_gr 11 15 h7 t).bind fun r9 =>
            mm_ci (f_St_admit [.ref r9, .int v2, .int v3, .int v4] h7) fun x11 h10 =>
            (mm_gr 11 15 h10 t).bind fun r12 =>
            mm_ci (f_St_advanceBy [.ref r12, .int 200] h10) fun x14 h13 =>
            if v5 = 0 then
              some (some (.int x11), h13)
            else if v5 = 1 then
              (mm_gr 11 15 h13 t).bind fun r15 =>
              (mm_gi 8 8 h13 r15).bind fun x16 =>
              some (some (.int x16), h13)
            else 
              (mm_gr 11 15 h13 t).bind fun r17 =>
              mm_ci (f_St_leavesOfAll [.ref r17] h13) fun x19 h18 =>
              some (some (.int x19), h18) := (mm_ga_is rfl).trans ((mm_gd_is hb).trans (e_Ls_during_0 mm_fu t v1 v2 v3 v4 v5 h))
set_option maxRecDepth 100000 in
theorem i_Ls_during (l : Launch) : mm_Imp l yX11_during cX11_during 7 (some .int) 6 f_Ls_during := mm_imp l (P := p_Ls_during) mm_cls_ok mm_sys_ok (by decide) (mm_Pok_of (List.forall_mem_cons.mpr ⟨k_X11_77, (List.forall_mem_cons.mpr ⟨k_X11_84, (List.forall_mem_cons.mpr ⟨k_X11_236, (fun _ h => absurd h List.not_mem_nil)⟩)⟩)⟩) (List.forall_mem_cons.mpr ⟨v_St_admit l q_1036 (by decide), (List.forall_mem_cons.mpr ⟨v_St_becomeRisen l q_1469 (by decide), (List.forall_mem_cons.mpr ⟨v_St_advanceBy l q_1497 (by decide), (List.forall_mem_cons.mpr ⟨v_St_leavesOfAll l q_1498 (by decide), (List.forall_mem_cons.mpr ⟨v_Ls_areValues l (Or.inl q_1506) (by decide), (fun _ h => absurd h List.not_mem_nil)⟩)⟩)⟩)⟩)⟩) (fun _ h => absurd h List.not_mem_nil) (fun _ h => absurd h List.not_mem_nil)) (by decide +kernel) rfl (cats := [1, 1, 1, 1, 1, 1]) (fun as h r e => ⟨(mm_ga_inv e).1, (mm_gd_inv (mm_ga_inv e).2).1⟩) rfl (by decide)
theorem v_Ls_during (l : Launch) {own : String} {i n0 : Nat} (hl : Cond.methodLink own i yX11_during ∈ mm_tbl) (hn : 7 ≤ n0) : mm_cok l own n0 i (0, 5, 1, f_Ls_during) := Or.inr (Or.inr ⟨rfl, yX11_during, cX11_during, 7, (some .int), 6, 11, TX11, 16, i_Ls_during l, hn, by decide, by decide +kernel, rfl, fun _ _ _ e => (mm_gd_inv (mm_ga_inv e).2).2, hl, q_1503, q_1504, q_163, q_1505⟩)
