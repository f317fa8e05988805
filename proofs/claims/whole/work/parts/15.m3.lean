def p_Ls_crashes : mm_P := ([(0, .aload_n 0, 1, 0), (1, .getfield 77, 3, 0), (4, .getfield 273, 3, 0), (7, .getfield 277, 3, 0), (10, .ifCond .eq 25, 3, 0), (13, .iload_n 1, 1, 0), (14, .iconst 1, 1, 1), (15, .if_icmp .lt 20, 3, 0), (18, .iload_n 1, 1, 0), (19, .bipush 50, 2, 50), (21, .if_icmp .gt 14, 3, 0), (24, .iload_n 2, 1, 0), (25, .iconst 1, 1, 1), (26, .if_icmp .lt 9, 3, 0), (29, .iload_n 2, 1, 0), (30, .bipush 8, 2, 8), (32, .if_icmp .le 5, 3, 0), (35, .iconst (-1), 1, (-1)), (36, .ireturn, 1, 0), (37, .aload_n 0, 1, 0), (38, .getfield 84, 3, 0), (41, .aload_n 0, 1, 0), (42, .getfield 77, 3, 0), (45, .invokevirtual 326, 3, 0), (48, .aload_n 0, 1, 0), (49, .getfield 84, 3, 0), (52, .iload_n 2, 1, 0), (53, .putfield 362, 3, 0), (56, .iconst 1, 1, 1), (57, .istore_n 3, 1, 0), (58, .iload_n 3, 1, 0), (59, .sipush 200, 3, 200), (62, .if_icmp .gt 54, 3, 0), (65, .aload_n 0, 1, 0), (66, .getfield 84, 3, 0), (69, .invokevirtual 210, 3, 0), (72, .pop, 1, 0), (73, .aload_n 0, 1, 0), (74, .getfield 84, 3, 0), (77, .getfield 273, 3, 0), (80, .getfield 277, 3, 0), (83, .ifCond .ne 5, 3, 0), (86, .iload_n 3, 1, 0), (87, .ireturn, 1, 0), (88, .iload_n 3, 1, 0), (89, .iload_n 1, 1, 0), (90, .irem, 1, 0), (91, .ifCond .ne 19, 3, 0), (94, .aload_n 0, 1, 0), (95, .getfield 84, 3, 0), (98, .invokevirtual 217, 3, 0), (101, .pop, 1, 0), (102, .aload_n 0, 1, 0), (103, .getfield 84, 3, 0), (106, .invokevirtual 220, 3, 0), (109, .pop, 1, 0), (110, .iinc 3 1, 3, 1), (113, .goto (-55), 3, 0), (116, .iconst (-1), 1, (-1)), (117, .ireturn, 1, 0)], [(77, 11, 13, 2), (84, 11, 15, 4), (273, 8, 3, 4), (277, 1, 3, 1), (362, 8, 7, 0)], [(210, 0, 0, 1, f_St_advance), (217, 0, 0, 1, f_St_fall), (220, 0, 0, 1, f_St_rise), (326, 0, 1, 0, f_St_becomeRisen)], [], [], [(0, [0, 1, 2]), (58, [0, 1, 3])], [], 2)
def f_Ls_crashes : mm_F := fun args h => mm_ga [1, 1, 1] args (mm_gd 11 args h (mm_run p_Ls_crashes (mm_fu + 1) 0 args [] h))
set_option maxRecDepth 100000 in
theorem e_Ls_crashes_0 (f : Nat) (t : Nat) (v1 : Int32) (v2 : Int32) (h : mm_H) : mm_run p_Ls_crashes (f + 1) 0 [.ref t, .int v1, .int v2] [] h =
  (mm_gr 11 13 h t).bind fun r1 =>
  (mm_gr 8 3 h r1).bind fun r2 =>
  (mm_gi 1 3 h r2).bind fun x3 =>
  if x3 = 0 then
    some (some (.int (-1)), h)
  else
    if v1 < 1 then
      some (some (.int (-1)), h)
    else
      if (50 : Int32) < v1 then
        some (some (.int (-1)), h)
      else
        if v2 < 1 then
          some (some (.int (-1)), h)
        else
          if (8 : Int32) < v2 then
            some (some (.int (-1)), h)
          else
            (mm_gr 11 15 h t).bind fun r4 =>
            (mm_gr 11 13 h t).bind fun r5 =>
            mm_cv (f_St_becomeRisen [.ref r4, .ref r5] h) fun h6 =>
            (mm_gr 11 15 h6 t).bind fun r7 =>
            (mm_pf 8 7 (.int v2) h6 r7).bind fun h8 =>
            mm_run p_Ls_crashes f 58 [.ref t, .int v1, .int 1] [] h8 := rfl
theorem e_Ls_crashes (t : Nat) (v1 : Int32) (v2 : Int32) (h : mm_H) {fs : List Value} (hb : h t = some (.inr (11, fs))) : f_Ls_crashes [.ref t, .int v1, .int v2] h =
  (mm_gr 11 13 h t).bind fun r1 =>
  (mm_gr 8 3 h r1).bind fun r2 =>
  (mm_gi 1 3 h r2).bind fun x3 =>
  if x3 = 0 then
    some (some (.int (-1)), h)
  else
    if v1 < 1 then
      some (some (.int (-1)), h)
    else
      if (50 : Int32) < v1 then
        some (some (.int (-1)), h)
      else
        if v2 < 1 then
          some (some (.int (-1)), h)
        else
          if (8 : Int32) < v2 then
            some (some (.int (-1)), h)
          else
            (mm_gr 11 15 h t).bind fun r4 =>
            (mm_gr 11 13 h t).bind fun r5 =>
            mm_cv (f_St_becomeRisen [.ref r4, .ref r5] h) fun h6 =>
            (mm_gr 11 15 h6 t).bind fun r7 =>
            (mm_pf 8 7 (.int v2) h6 r7).bind fun h8 =>
            mm_run p_Ls_crashes mm_fu 58 [.ref t, .int v1, .int 1] [] h8 := (mm_ga_is rfl).trans ((mm_gd_is hb).trans (e_Ls_crashes_0 mm_fu t v1 v2 h))
set_option maxRecDepth 100000 in
theorem e_Ls_crashes_58 (f : Nat) (t : Nat) (v1 : Int32) (v3 : Int32) (h : mm_H) : mm_run p_Ls_crashes (f + 1) 58 [.ref t, .int v1, .int v3] [] h =
  if (200 : Int32) < v3 then
    some (some (.int (-1)), h)
  else
    (mm_gr 11 15 h t).bind fun r1 =>
    mm_ci (f_St_advance [.ref r1] h) fun x3 h2 =>
    (mm_gr 11 15 h2 t).bind fun r4 =>
    (mm_gr 8 3 h2 r4).bind fun r5 =>
    (mm_gi 1 3 h2 r5).bind fun x6 =>
    if x6 = 0 then
      some (some (.int v3), h2)
    else
      if v1 = 0 then none else
      if (mm_rem v3 v1) = 0 then
        (mm_gr 11 15 h2 t).bind fun r7 =>
        mm_ci (f_St_fall [.ref r7] h2) fun x9 h8 =>
        (mm_gr 11 15 h8 t).bind fun r10 =>
        mm_ci (f_St_rise [.ref r10] h8) fun x12 h11 =>
        mm_run p_Ls_crashes f 58 [.ref t, .int v1, .int (v3 + 1)] [] h11
      else
        mm_run p_Ls_crashes f 58 [.ref t, .int v1, .int (v3 + 1)] [] h2 := rfl
set_option maxRecDepth 100000 in
theorem i_Ls_crashes (l : Launch) : mm_Imp l yX11_crashes cX11_crashes 4 (some .int) 6 f_Ls_crashes := mm_imp l (P := p_Ls_crashes) mm_cls_ok mm_sys_ok (by decide) (mm_Pok_of (List.forall_mem_cons.mpr ⟨k_X11_77, (List.forall_mem_cons.mpr ⟨k_X11_84, (List.forall_mem_cons.mpr ⟨k_X11_273, (List.forall_mem_cons.mpr ⟨k_X11_277, (List.forall_mem_cons.mpr ⟨k_X11_362, (fun _ h => absurd h List.not_mem_nil)⟩)⟩)⟩)⟩)⟩) (List.forall_mem_cons.mpr ⟨v_St_advance l q_1227 (by decide), (List.forall_mem_cons.mpr ⟨v_St_fall l q_1276 (by decide), (List.forall_mem_cons.mpr ⟨v_St_rise l q_1284 (by decide), (List.forall_mem_cons.mpr ⟨v_St_becomeRisen l q_1469 (by decide), (fun _ h => absurd h List.not_mem_nil)⟩)⟩)⟩)⟩) (fun _ h => absurd h List.not_mem_nil) (fun _ h => absurd h List.not_mem_nil)) (by decide +kernel) rfl (cats := [1, 1, 1]) (fun as h r e => ⟨(mm_ga_inv e).1, (mm_gd_inv (mm_ga_inv e).2).1⟩) rfl (by decide)
theorem v_Ls_crashes (l : Launch) {own : String} {i n0 : Nat} (hl : Cond.methodLink own i yX11_crashes ∈ mm_tbl) (hn : 7 ≤ n0) : mm_cok l own n0 i (0, 2, 1, f_Ls_crashes) := Or.inr (Or.inr ⟨rfl, yX11_crashes, cX11_crashes, 4, (some .int), 6, 11, TX11, 16, i_Ls_crashes l, hn, by decide, by decide +kernel, rfl, fun _ _ _ e => (mm_gd_inv (mm_ga_inv e).2).2, hl, q_1508, q_1509, q_163, q_1510⟩)
def p_Ls_sorted : mm_P := ([(0, .aload_n 0, 1, 0), (1, .iload_n 1, 1, 0), (2, .invokevirtual 132, 3, 0), (5, .ifCond .eq 14, 3, 0), (8, .iload_n 2, 1, 0), (9, .iconst 1, 1, 1), (10, .if_icmp .lt 9, 3, 0), (13, .iload_n 2, 1, 0), (14, .bipush 8, 2, 8), (16, .if_icmp .le 5, 3, 0), (19, .iconst 0, 1, 0), (20, .ireturn, 1, 0), (21, .aload_n 0, 1, 0), (22, .getfield 28, 3, 0), (25, .aload_n 0, 1, 0), (26, .getfield 77, 3, 0), (29, .getfield 135, 3, 0), (32, .iload_n 1, 1, 0), (33, .aaload, 1, 0), (34, .aload_n 0, 1, 0), (35, .getfield 77, 3, 0), (38, .invokevirtual 302, 3, 0), (41, .iload_n 2, 1, 0), (42, .invokevirtual 417, 3, 0), (45, .iconst 1, 1, 1), (46, .ireturn, 1, 0)], [(28, 11, 2, 4), (77, 11, 13, 2), (135, 8, 2, 4)], [(132, 0, 1, 1, f_Ls_isIndex), (302, 0, 0, 1, f_St_doomed), (417, 0, 3, 0, f_Bn_sort)], [], [], [(0, [0, 1, 2])], [], 1)
def f_Ls_sorted : mm_F := fun args h => mm_ga [1, 1, 1] args (mm_gd 11 args h (mm_run p_Ls_sorted (mm_fu + 1) 0 args [] h))
set_option maxRecDepth 100000 in
theorem e_Ls_sorted_0 (f : Nat) (t : Nat) (v1 : Int32) (v2 : Int32) (h : mm_H) : mm_run p_Ls_sorted (f + 1) 0 [.ref t, .int v1, .int v2] [] h =
  mm_ci (f_Ls_isIndex [.ref t, .int v1] h) fun x2 h1 =>
  if x2 = 0 then
    some (some (.int 0), h1)
  else
    if v2 < 1 then
      some (some (.int 0), h1)
    else
      if (8 : Int32) < v2 then
        some (some (.int 0), h1)
      else
        (mm_gr 11 2 h1 t).bind fun r3 =>
        (mm_gr 11 13 h1 t).bind fun r4 =>
        (mm_gr 8 2 h1 r4).bind fun r5 =>
        (mm_lr h1 r5 v1).bind fun r6 =>
        (mm_gr 11 13 h1 t).bind fun r7 =>
        mm_ci (f_St_doomed [.ref r7] h1) fun x9 h8 =>
        mm_cv (f_Bn_sort [.ref r3, .ref r6, .int x9, .int v2] h8) fun h10 =>
        some (some (.int 1), h10) := rfl
theorem e_Ls_sorted (t : Nat) (v1 : Int32) (v2 : Int32) (h : mm_H) {fs : List Value} (hb : h t = some (.inr (11, fs))) : f_Ls_sorted [.ref t, .int v1, .int v2] h =
  mm_ci (f_Ls_isIndex [.ref t, .int v1] h) fun x2 h1 =>
  if x2 = 0 then
    some (some (.int 0), h1)
  else
    if v2 < 1 then
      some (some (.int 0), h1)
    else
      if (8 : Int32) < v2 then
        some (some (.int 0), h1)
      else
        (mm_gr 11 2 h1 t).bind fun r3 =>
        (mm_gr 11 13 h1 t).bind fun r4 =>
        (mm_gr 8 2 h1 r4).bind fun r5 =>
        (mm_lr h1 r5 v1).bind fun r6 =>
        (mm_gr 11 13 h1 t).bind fun r7 =>
        mm_ci (f_St_doomed [.ref r7] h1) fun x9 h8 =>
        mm_cv (f_Bn_sort [.ref r3, .ref r6, .int x9, .int v2] h8) fun h10 =>
        some (some (.int 1), h10) := (mm_ga_is rfl).trans ((mm_gd_is hb).trans (e_Ls_sorted_0 mm_fu t v1 v2 h))
set_option maxRecDepth 100000 in
theorem i_Ls_sorted (l : Launch) : mm_Imp l yX11_sorted cX11_sorted 3 (some .boolean) 6 f_Ls_sorted := mm_imp l (P := p_Ls_sorted) mm_cls_ok mm_sys_ok (by decide) (mm_Pok_of (List.forall_mem_cons.mpr ⟨k_X11_28, (List.forall_mem_cons.mpr ⟨k_X11_77, (List.forall_mem_cons.mpr ⟨k_X11_135, (fun _ h => absurd h List.not_mem_nil)⟩)⟩)⟩) (List.forall_mem_cons.mpr ⟨v_Ls_isIndex l q_974 (by decide), (List.forall_mem_cons.mpr ⟨v_St_doomed l q_1433 (by decide), (List.forall_mem_cons.mpr ⟨v_Bn_sort l q_1519 (by decide), (fun _ h => absurd h List.not_mem_nil)⟩)⟩)⟩) (fun _ h => absurd h List.not_mem_nil) (fun _ h => absurd h List.not_mem_nil)) (by decide +kernel) rfl (cats := [1, 1, 1]) (fun as h r e => ⟨(mm_ga_inv e).1, (mm_gd_inv (mm_ga_inv e).2).1⟩) rfl (by decide)
theorem v_Ls_sorted (l : Launch) {own : String} {i n0 : Nat} (hl : Cond.methodLink own i yX11_sorted ∈ mm_tbl) (hn : 7 ≤ n0) : mm_cok l own n0 i (0, 2, 1, f_Ls_sorted) := Or.inr (Or.inr ⟨rfl, yX11_sorted, cX11_sorted, 3, (some .boolean), 6, 11, TX11, 16, i_Ls_sorted l, hn, by decide, by decide +kernel, rfl, fun _ _ _ e => (mm_gd_inv (mm_ga_inv e).2).2, hl, q_1517, q_45, q_163, q_1518⟩)
def p_Ls_runs : mm_P := ([(0, .aload_n 0, 1, 0), (1, .iload_n 1, 1, 0), (2, .iload_n 2, 1, 0), (3, .invokevirtual 365, 3, 0), (6, .ifCond .eq 13, 3, 0), (9, .aload_n 0, 1, 0), (10, .getfield 28, 3, 0), (13, .getfield 369, 3, 0), (16, .goto 4, 3, 0), (19, .iconst (-1), 1, (-1)), (20, .ireturn, 1, 0)], [(28, 11, 2, 4), (369, 0, 5, 0)], [(365, 0, 2, 1, f_Ls_sorted)], [], [], [(0, [0, 1, 2])], [], 2)
def f_Ls_runs : mm_F := fun args h => mm_ga [1, 1, 1] args (mm_gd 11 args h (mm_run p_Ls_runs (mm_fu + 1) 0 args [] h))
set_option maxRecDepth 100000 in
theorem e_Ls_runs_0 (f : Nat) (t : Nat) (v1 : Int32) (v2 : Int32) (h : mm_H) : mm_run p_Ls_runs (f + 1) 0 [.ref t, .int v1, .int v2] [] h =
  mm_ci (f_Ls_sorted [.ref t, .int v1, .int v2] h) fun x2 h1 =>
  if x2 = 0 then
    some (some (.int (-1)), h1)
  else
    (mm_gr 11 2 h1 t).bind fun r3 =>
    (mm_gi 0 5 h1 r3).bind fun x4 =>
    some (some (.int x4), h1) := rfl
theorem e_Ls_runs (t : Nat) (v1 : Int32) (v2 : Int32) (h : mm_H) {fs : List Value} (hb : h t = some (.inr (11, fs))) : f_Ls_runs [.ref t, .int v1, .int v2] h =
  mm_ci (f_Ls_sorted [.ref t, .int v1, .int v2] h) fun x2 h1 =>
  if x2 = 0 then
    some (some (.int (-1)), h1)
  else
    (mm_gr 11 2 h1 t).bind fun r3 =>
    (mm_gi 0 5 h1 r3).bind fun x4 =>
    some (some (.int x4), h1) := (mm_ga_is rfl).trans ((mm_gd_is hb).trans (e_Ls_runs_0 mm_fu t v1 v2 h))
set_option maxRecDepth 100000 in
theorem i_Ls_runs (l : Launch) : mm_Imp l yX11_runs cX11_runs 3 (some .int) 7 f_Ls_runs := mm_imp l (P := p_Ls_runs) mm_cls_ok mm_sys_ok (by decide) (mm_Pok_of (List.forall_mem_cons.mpr ⟨k_X11_28, (List.forall_mem_cons.mpr ⟨k_X11_369, (fun _ h => absurd h List.not_mem_nil)⟩)⟩) (List.forall_mem_cons.mpr ⟨v_Ls_sorted l q_1515 (by decide), (fun _ h => absurd h List.not_mem_nil)⟩) (fun _ h => absurd h List.not_mem_nil) (fun _ h => absurd h List.not_mem_nil)) (by decide +kernel) rfl (cats := [1, 1, 1]) (fun as h r e => ⟨(mm_ga_inv e).1, (mm_gd_inv (mm_ga_inv e).2).1⟩) rfl (by decide)
theorem v_Ls_runs (l : Launch) {own : String} {i n0 : Nat} (hl : Cond.methodLink own i yX11_runs ∈ mm_tbl) (hn : 8 ≤ n0) : mm_cok l own n0 i (0, 2, 1, f_Ls_runs) := Or.inr (Or.inr ⟨rfl, yX11_runs, cX11_runs, 3, (some .int), 7, 11, TX11, 16, i_Ls_runs l, hn, by decide, by decide +kernel, rfl, fun _ _ _ e => (mm_gd_inv (mm_ga_inv e).2).2, hl, q_1512, q_1513, q_163, q_1514⟩)
def p_Ls_run : mm_P := ([(0, .aload_n 0, 1, 0), (1, .iload_n 1, 1, 0), (2, .iload_n 2, 1, 0), (3, .invokevirtual 365, 3, 0), (6, .ifCond .eq 30, 3, 0), (9, .iload_n 3, 1, 0), (10, .ifCond .lt 26, 3, 0), (13, .iload_n 3, 1, 0), (14, .aload_n 0, 1, 0), (15, .getfield 28, 3, 0), (18, .getfield 369, 3, 0), (21, .if_icmp .ge 15, 3, 0), (24, .aload_n 0, 1, 0), (25, .getfield 28, 3, 0), (28, .getfield 372, 3, 0), (31, .iload_n 3, 1, 0), (32, .iaload, 1, 0), (33, .goto 4, 3, 0), (36, .iconst (-1), 1, (-1)), (37, .ireturn, 1, 0)], [(28, 11, 2, 4), (369, 0, 5, 0), (372, 0, 2, 4)], [(365, 0, 2, 1, f_Ls_sorted)], [], [], [(0, [0, 1, 2, 3])], [], 2)
def f_Ls_run : mm_F := fun args h => mm_ga [1, 1, 1, 1] args (mm_gd 11 args h (mm_run p_Ls_run (mm_fu + 1) 0 args [] h))
set_option maxRecDepth 100000 in
theorem e_Ls_run_0 (f : Nat) (t : Nat) (v1 : Int32) (v2 : Int32) (v3 : Int32) (h : mm_H) : mm_run p_Ls_run (f + 1) 0 [.ref t, .int v1, .int v2, .int v3] [] h =
  mm_ci (f_Ls_sorted [.ref t, .int v1, .int v2] h) fun x2 h1 =>
  if x2 = 0 then
    some (some (.int (-1)), h1)
  else
    if v3 < 0 then
      some (some (.int (-1)), h1)
    else
      (mm_gr 11 2 h1 t).bind fun r3 =>
      (mm_gi 0 5 h1 r3).bind fun x4 =>
      if v3 < x4 then
        (mm_gr 11 2 h1 t).bind fun r5 =>
        (mm_gr 0 2 h1 r5).bind fun r6 =>
        (mm_li h1 r6 v3).bind fun x7 =>
        some (some (.int x7), h1)
      else
        some (some (.int (-1)), h1) := rfl
theorem e_Ls_run (t : Nat) (v1 : Int32) (v2 : Int32) (v3 : Int32) (h : mm_H) {fs : List Value} (hb : h t = some (.inr (11, fs))) : f_Ls_run [.ref t, .int v1, .int v2, .int v3] h =
  mm_ci (f_Ls_sorted [.ref t, .int v1, .int v2] h) fun x2 h1 =>
  if x2 = 0 then
    some (some (.int (-1)), h1)
  else
    if v3 < 0 then
      some (some (.int (-1)), h1)
    else
      (mm_gr 11 2 h1 t).bind fun r3 =>
      (mm_gi 0 5 h1 r3).bind fun x4 =>
      if v3 < x4 then
        (mm_gr 11 2 h1 t).bind fun r5 =>
        (mm_gr 0 2 h1 r5).bind fun r6 =>
        (mm_li h1 r6 v3).bind fun x7 =>
        some (some (.int x7), h1)
      else
        some (some (.int (-1)), h1) := (mm_ga_is rfl).trans ((mm_gd_is hb).trans (e_Ls_run_0 mm_fu t v1 v2 v3 h))
set_option maxRecDepth 100000 in
theorem i_Ls_run (l : Launch) : mm_Imp l yX11_run cX11_run 4 (some .int) 7 f_Ls_run := mm_imp l (P := p_Ls_run) mm_cls_ok mm_sys_ok (by decide) (mm_Pok_of (List.forall_mem_cons.mpr ⟨k_X11_28, (List.forall_mem_cons.mpr ⟨k_X11_369, (List.forall_mem_cons.mpr ⟨k_X11_372, (fun _ h => absurd h List.not_mem_nil)⟩)⟩)⟩) (List.forall_mem_cons.mpr ⟨v_Ls_sorted l q_1515 (by decide), (fun _ h => absurd h List.not_mem_nil)⟩) (fun _ h => absurd h List.not_mem_nil) (fun _ h => absurd h List.not_mem_nil)) (by decide +kernel) rfl (cats := [1, 1, 1, 1]) (fun as h r e => ⟨(mm_ga_inv e).1, (mm_gd_inv (mm_ga_inv e).2).1⟩) rfl (by decide)
theorem v_Ls_run (l : Launch) {own : String} {i n0 : Nat} (hl : Cond.methodLink own i yX11_run ∈ mm_tbl) (hn : 8 ≤ n0) : mm_cok l own n0 i (0, 3, 1, f_Ls_run) := Or.inr (Or.inr ⟨rfl, yX11_run, cX11_run, 4, (some .int), 7, 11, TX11, 16, i_Ls_run l, hn, by decide, by decide +kernel, rfl, fun _ _ _ e => (mm_gd_inv (mm_ga_inv e).2).2, hl, q_1537, q_1538, q_163, q_1539⟩)
def p_Ls_merged : mm_P := ([(0, .aload_n 0, 1, 0), (1, .iload_n 1, 1, 0), (2, .iload_n 2, 1, 0), (3, .invokevirtual 365, 3, 0), (6, .ifCond .eq 13, 3, 0), (9, .aload_n 0, 1, 0), (10, .getfield 28, 3, 0), (13, .invokevirtual 374, 3, 0), (16, .goto 4, 3, 0), (19, .iconst (-1), 1, (-1)), (20, .ireturn, 1, 0)], [(28, 11, 2, 4)], [(365, 0, 2, 1, f_Ls_sorted), (374, 0, 0, 1, f_Bn_mergeCost)], [], [], [(0, [0, 1, 2])], [], 2)
def f_Ls_merged : mm_F := fun args h => mm_ga [1, 1, 1] args (mm_gd 11 args h (mm_run p_Ls_merged (mm_fu + 1) 0 args [] h))
set_option maxRecDepth 100000 in
theorem e_Ls_merged_0 (f : Nat) (t : Nat) (v1 : Int32) (v2 : Int32) (h : mm_H) : mm_run p_Ls_merged (f + 1) 0 [.ref t, .int v1, .int v2] [] h =
  mm_ci (f_Ls_sorted [.ref t, .int v1, .int v2] h) fun x2 h1 =>
  if x2 = 0 then
    some (some (.int (-1)), h1)
  else
    (mm_gr 11 2 h1 t).bind fun r3 =>
    mm_ci (f_Bn_mergeCost [.ref r3] h1) fun x5 h4 =>
    some (some (.int x5), h4) := rfl
theorem e_Ls_merged (t : Nat) (v1 : Int32) (v2 : Int32) (h : mm_H) {fs : List Value} (hb : h t = some (.inr (11, fs))) : f_Ls_merged [.ref t, .int v1, .int v2] h =
  mm_ci (f_Ls_sorted [.ref t, .int v1, .int v2] h) fun x2 h1 =>
  if x2 = 0 then
    some (some (.int (-1)), h1)
  else
    (mm_gr 11 2 h1 t).bind fun r3 =>
    mm_ci (f_Bn_mergeCost [.ref r3] h1) fun x5 h4 =>
    some (some (.int x5), h4) := (mm_ga_is rfl).trans ((mm_gd_is hb).trans (e_Ls_merged_0 mm_fu t v1 v2 h))
set_option maxRecDepth 100000 in
theorem i_Ls_merged (l : Launch) : mm_Imp l yX11_merged cX11_merged 3 (some .int) 7 f_Ls_merged := mm_imp l (P := p_Ls_merged) mm_cls_ok mm_sys_ok (by decide) (mm_Pok_of (List.forall_mem_cons.mpr ⟨k_X11_28, (fun _ h => absurd h List.not_mem_nil)⟩) (List.forall_mem_cons.mpr ⟨v_Ls_sorted l q_1515 (by decide), (List.forall_mem_cons.mpr ⟨v_Bn_mergeCost l q_1544 (by decide), (fun _ h => absurd h List.not_mem_nil)⟩)⟩) (fun _ h => absurd h List.not_mem_nil) (fun _ h => absurd h List.not_mem_nil)) (by decide +kernel) rfl (cats := [1, 1, 1]) (fun as h r e => ⟨(mm_ga_inv e).1, (mm_gd_inv (mm_ga_inv e).2).1⟩) rfl (by decide)
theorem v_Ls_merged (l : Launch) {own : String} {i n0 : Nat} (hl : Cond.methodLink own i yX11_merged ∈ mm_tbl) (hn : 8 ≤ n0) : mm_cok l own n0 i (0, 2, 1, f_Ls_merged) := Or.inr (Or.inr ⟨rfl, yX11_merged, cX11_merged, 3, (some .int), 7, 11, TX11, 16, i_Ls_merged l, hn, by decide, by decide +kernel, rfl, fun _ _ _ e => (mm_gd_inv (mm_ga_inv e).2).2, hl, q_1541, q_1542, q_163, q_1543⟩)
def p_Ls_check : mm_P := ([(0, .iload_n 1, 1, 0), (1, .lookupswitch 54 #[(0, 27), (1, 46)], 27, 0), (28, .aload_n 0, 1, 0), (29, .getfield 28, 3, 0), (32, .aload_n 0, 1, 0), (33, .getfield 77, 3, 0), (36, .aload_n 0, 1, 0), (37, .getfield 77, 3, 0), (40, .invokevirtual 302, 3, 0), (43, .invokevirtual 377, 3, 0), (46, .ireturn, 1, 0), (47, .aload_n 0, 1, 0), (48, .getfield 77, 3, 0), (51, .invokevirtual 381, 3, 0), (54, .ireturn, 1, 0), (55, .iconst (-1), 1, (-1)), (56, .ireturn, 1, 0)], [(28, 11, 2, 4), (77, 11, 13, 2)], [(302, 0, 0, 1, f_St_doomed), (377, 0, 2, 1, f_Bn_comparisons), (381, 0, 0, 1, f_St_singlyCost)], [], [], [(0, [0, 1])], [(1, [(0, 28), (1, 47)], 55)], 2)
def f_Ls_check : mm_F := fun args h => mm_ga [1, 1] args (mm_gd 11 args h (mm_run p_Ls_check (mm_fu + 1) 0 args [] h))
set_option maxRecDepth 100000 in
theorem e_Ls_check_0 (f : Nat) (t : Nat) (v1 : Int32) (h : mm_H) : mm_run p_Ls_check (f + 1) 0 [.ref t, .int v1] [] h =
  if v1 = 0 then
    (mm_gr 11 2 h t).bind fun r1 =>
    (mm_gr 11 13 h t).bind fun r2 =>
    (mm_gr 11 13 h t).bind fun r3 =>
    mm_ci (f_St_doomed [.ref r3] h) fun x5 h4 =>
    mm_ci (f_Bn_comparisons [.ref r1, .ref r2, .int x5] h4) fun x7 h6 =>
    some (some (.int x7), h6)
  else if v1 = 1 then
    (mm_gr 11 13 h t).bind fun r8 =>
    mm_ci (f_St_singlyCost [.ref r8] h) fun x10 h9 =>
    some (some (.int x10), h9)
  else 
    some (some (.int (-1)), h) := rfl
theorem e_Ls_check (t : Nat) (v1 : Int32) (h : mm_H) {fs : List Value} (hb : h t = some (.inr (11, fs))) : f_Ls_check [.ref t, .int v1] h =
  if v1 = 0 then
    (mm_gr 11 2 h t).bind fun r1 =>
    (mm_gr 11 13 h t).bind fun r2 =>
    (mm_gr 11 13 h t).bind fun r3 =>
    mm_ci (f_St_doomed [.ref r3] h) fun x5 h4 =>
    mm_ci (f_Bn_comparisons [.ref r1, .ref r2, .int x5] h4) fun x7 h6 =>
    some (some (.int x7), h6)
  else if v1 = 1 then
    (mm_gr 11 13 h t).bind fun r8 =>
    mm_ci (f_St_singlyCost [.ref r8] h) fun x10 h9 =>
    some (some (.int x10), h9)
  else 
    some (some (.int (-1)), h) := (mm_ga_is rfl).trans ((mm_gd_is hb).trans (e_Ls_check_0 mm_fu t v1 h))
set_option maxRecDepth 100000 in
theorem i_Ls_check (l : Launch) : mm_Imp l yX11_check cX11_check 2 (some .int) 7 f_Ls_check := mm_imp l (P := p_Ls_check) mm_cls_ok mm_sys_ok (by decide) (mm_Pok_of (List.forall_mem_cons.mpr ⟨k_X11_28, (List.forall_mem_cons.mpr ⟨k_X11_77, (fun _ h => absurd h List.not_mem_nil)⟩)⟩) (List.forall_mem_cons.mpr ⟨v_St_doomed l q_1433 (by decide), (List.forall_mem_cons.mpr ⟨v_Bn_comparisons l q_1556 (by decide), (List.forall_mem_cons.mpr ⟨v_St_singlyCost l q_1562 (by decide), (fun _ h => absurd h List.not_mem_nil)⟩)⟩)⟩) (fun _ h => absurd h List.not_mem_nil) (fun _ h => absurd h List.not_mem_nil)) (by decide +kernel) rfl (cats := [1, 1]) (fun as h r e => ⟨(mm_ga_inv e).1, (mm_gd_inv (mm_ga_inv e).2).1⟩) rfl (by decide)
theorem v_Ls_check (l : Launch) {own : String} {i n0 : Nat} (hl : Cond.methodLink own i yX11_check ∈ mm_tbl) (hn : 8 ≤ n0) : mm_cok l own n0 i (0, 1, 1, f_Ls_check) := Or.inr (Or.inr ⟨rfl, yX11_check, cX11_check, 2, (some .int), 7, 11, TX11, 16, i_Ls_check l, hn, by decide, by decide +kernel, rfl, fun _ _ _ e => (mm_gd_inv (mm_ga_inv e).2).2, hl, q_1553, q_1554, q_163, q_1555⟩)
def p_Ls_hinders : mm_P := ([(0, .aload_n 0, 1, 0), (1, .getfield 77, 3, 0), (4, .aload_n 0, 1, 0), (5, .getfield 77, 3, 0), (8, .iconst (-1), 1, (-1)), (9, .iconst 0, 1, 0), (10, .iconst 0, 1, 0), (11, .invokevirtual 384, 3, 0), (14, .invokevirtual 387, 3, 0), (17, .ireturn, 1, 0)], [(77, 11, 13, 2)], [(384, 0, 3, 1, f_St_eligible), (387, 0, 1, 1, f_St_hindering)], [], [], [(0, [0])], [], 2)
def f_Ls_hinders : mm_F := fun args h => mm_ga [1] args (mm_gd 11 args h (mm_run p_Ls_hinders (mm_fu + 1) 0 args [] h))
set_option maxRecDepth 100000 in
theorem e_Ls_hinders_0 (f : Nat) (t : Nat) (h : mm_H) : mm_run p_Ls_hinders (f + 1) 0 [.ref t] [] h =
  (mm_gr 11 13 h t).bind fun r1 =>
  (mm_gr 11 13 h t).bind fun r2 =>
  mm_ci (f_St_eligible [.ref r2, .int (-1), .int 0, .int 0] h) fun x4 h3 =>
  mm_ci (f_St_hindering [.ref r1, .int x4] h3) fun x6 h5 =>
  some (some (.int x6), h5) := rfl
theorem e_Ls_hinders (t : Nat) (h : mm_H) {fs : List Value} (hb : h t = some (.inr (11, fs))) : f_Ls_hinders [.ref t] h =
  (mm_gr 11 13 h t).bind fun r1 =>
  (mm_gr 11 13 h t).bind fun r2 =>
  mm_ci (f_St_eligible [.ref r2, .int (-1), .int 0, .int 0] h) fun x4 h3 =>
  mm_ci (f_St_hindering [.ref r1, .int x4] h3) fun x6 h5 =>
  some (some (.int x6), h5) := (mm_ga_is rfl).trans ((mm_gd_is hb).trans (e_Ls_hinders_0 mm_fu t h))
set_option maxRecDepth 100000 in
theorem i_Ls_hinders (l : Launch) : mm_Imp l yX11_hinders cX11_hinders 1 (some .int) 5 f_Ls_hinders := mm_imp l (P := p_Ls_hinders) mm_cls_ok mm_sys_ok (by decide) (mm_Pok_of (List.forall_mem_cons.mpr ⟨k_X11_77, (fun _ h => absurd h List.not_mem_nil)⟩) (List.forall_mem_cons.mpr ⟨v_St_eligible l q_1575 (by decide), (List.forall_mem_cons.mpr ⟨v_St_hindering l q_1576 (by decide), (fun _ h => absurd h List.not_mem_nil)⟩)⟩) (fun _ h => absurd h List.not_mem_nil) (fun _ h => absurd h List.not_mem_nil)) (by decide +kernel) rfl (cats := [1]) (fun as h r e => ⟨(mm_ga_inv e).1, (mm_gd_inv (mm_ga_inv e).2).1⟩) rfl (by decide)
theorem v_Ls_hinders (l : Launch) {own : String} {i n0 : Nat} (hl : Cond.methodLink own i yX11_hinders ∈ mm_tbl) (hn : 6 ≤ n0) : mm_cok l own n0 i (0, 0, 1, f_Ls_hinders) := Or.inr (Or.inr ⟨rfl, yX11_hinders, cX11_hinders, 1, (some .int), 5, 11, TX11, 16, i_Ls_hinders l, hn, by decide, by decide +kernel, rfl, fun _ _ _ e => (mm_gd_inv (mm_ga_inv e).2).2, hl, q_1572, q_1573, q_163, q_1574⟩)
def p_Ls_fits : mm_P := ([(0, .aload_n 0, 1, 0), (1, .getfield 77, 3, 0), (4, .getfield 108, 3, 0), (7, .iload_n 1, 1, 0), (8, .invokevirtual 390, 3, 0), (11, .ifCond .ne 5, 3, 0), (14, .iconst 0, 1, 0), (15, .ireturn, 1, 0), (16, .iload_n 2, 1, 0), (17, .lookupswitch 59 #[(0, 27), (1, 43)], 27, 0), (44, .aload_n 0, 1, 0), (45, .getfield 57, 3, 0), (48, .getfield 393, 3, 0), (51, .aload_n 0, 1, 0), (52, .getfield 77, 3, 0), (55, .iload_n 1, 1, 0), (56, .invokevirtual 397, 3, 0), (59, .ireturn, 1, 0), (60, .aload_n 0, 1, 0), (61, .getfield 57, 3, 0), (64, .getfield 403, 3, 0), (67, .aload_n 0, 1, 0), (68, .getfield 77, 3, 0), (71, .iload_n 1, 1, 0), (72, .invokevirtual 397, 3, 0), (75, .ireturn, 1, 0), (76, .iconst 0, 1, 0), (77, .ireturn, 1, 0)], [(57, 11, 9, 2), (77, 11, 13, 2), (108, 8, 0, 4), (393, 4, 6, 4), (403, 4, 7, 4)], [(390, 0, 1, 1, f_Rw_isVisible), (397, 0, 2, 1, f_Wh_holds)], [], [], [(0, [0, 1, 2])], [(17, [(0, 44), (1, 60)], 76)], 1)
def f_Ls_fits : mm_F := fun args h => mm_ga [1, 1, 1] args (mm_gd 11 args h (mm_run p_Ls_fits (mm_fu + 1) 0 args [] h))
set_option maxRecDepth 100000 in
theorem e_Ls_fits_0 (f : Nat) (t : Nat) (v1 : Int32) (v2 : Int32) (h : mm_H) : mm_run p_Ls_fits (f + 1) 0 [.ref t, .int v1, .int v2] [] h =
  (mm_gr 11 13 h t).bind fun r1 =>
  (mm_gr 8 0 h r1).bind fun r2 =>
  mm_ci (f_Rw_isVisible [.ref r2, .int v1] h) fun x4 h3 =>
  if x4 = 0 then
    some (some (.int 0), h3)
  else
    if v2 = 0 then
      (mm_gr 11 9 h3 t).bind fun r5 =>
      (mm_gr 4 6 h3 r5).bind fun r6 =>
      (mm_gr 11 13 h3 t).bind fun r7 =>
      mm_ci (f_Wh_holds [.ref r6, .ref r7, .int v1] h3) fun x9 h8 =>
      if x9 = 0 ∨ x9 = 1 then some (some (.int x9), h8) else none
    else if v2 = 1 then
      (mm_gr 11 9 h3 t).bind fun r10 =>
      (mm_gr 4 7 h3 r10).bind fun r11 =>
      (mm_gr 11 13 h3 t).bind fun r12 =>
      mm_ci (f_Wh_holds [.ref r11, .ref r12, .int v1] h3) fun x14 h13 =>
      if x14 = 0 ∨ x14 = 1 then some (some (.int x14), h13) else none
    else 
      some (some (.int 0), h3) := rfl
theorem e_Ls_fits (t : Nat) (v1 : Int32) (v2 : Int32) (h : mm_H) {fs : List Value} (hb : h t = some (.inr (11, fs))) : f_Ls_fits [.ref t, .int v1, .int v2] h =
  (mm_gr 11 13 h t).bind fun r1 =>
  (mm_gr 8 0 h r1).bind fun r2 =>
  mm_ci (f_Rw_isVisible [.ref r2, .int v1] h) fun x4 h3 =>
  if x4 = 0 then
    some (some (.int 0), h3)
  else
    if v2 = 0 then
      (mm_gr 11 9 h3 t).bind fun r5 =>
      (mm_gr 4 6 h3 r5).bind fun r6 =>
      (mm_gr 11 13 h3 t).bind fun r7 =>
      mm_ci (f_Wh_holds [.ref r6, .ref r7, .int v1] h3) fun x9 h8 =>
      if x9 = 0 ∨ x9 = 1 then some (some (.int x9), h8) else none
    else if v2 = 1 then
      (mm_gr 11 9 h3 t).bind fun r10 =>
      (mm_gr 4 7 h3 r10).bind fun r11 =>
      (mm_gr 11 13 h3 t).bind fun r12 =>
      mm_ci (f_Wh_holds [.ref r11, .ref r12, .int v1] h3) fun x14 h13 =>
      if x14 = 0 ∨ x14 = 1 then some (some (.int x14), h13) else none
    else 
      some (some (.int 0), h3) := (mm_ga_is rfl).trans ((mm_gd_is hb).trans (e_Ls_fits_0 mm_fu t v1 v2 h))
set_option maxRecDepth 100000 in
theorem i_Ls_fits (l : Launch) : mm_Imp l yX11_fits cX11_fits 3 (some .boolean) 4 f_Ls_fits := mm_imp l (P := p_Ls_fits) mm_cls_ok mm_sys_ok (by decide) (mm_Pok_of (List.forall_mem_cons.mpr ⟨k_X11_57, (List.forall_mem_cons.mpr ⟨k_X11_77, (List.forall_mem_cons.mpr ⟨k_X11_108, (List.forall_mem_cons.mpr ⟨k_X11_393, (List.forall_mem_cons.mpr ⟨k_X11_403, (fun _ h => absurd h List.not_mem_nil)⟩)⟩)⟩)⟩)⟩) (List.forall_mem_cons.mpr ⟨v_Rw_isVisible l q_1581 (by decide), (List.forall_mem_cons.mpr ⟨v_Wh_holds l q_1582 (by decide), (fun _ h => absurd h List.not_mem_nil)⟩)⟩) (fun _ h => absurd h List.not_mem_nil) (fun _ h => absurd h List.not_mem_nil)) (by decide +kernel) rfl (cats := [1, 1, 1]) (fun as h r e => ⟨(mm_ga_inv e).1, (mm_gd_inv (mm_ga_inv e).2).1⟩) rfl (by decide)
theorem v_Ls_fits (l : Launch) {own : String} {i n0 : Nat} (hl : Cond.methodLink own i yX11_fits ∈ mm_tbl) (hn : 5 ≤ n0) : mm_cok l own n0 i (0, 2, 1, f_Ls_fits) := Or.inr (Or.inr ⟨rfl, yX11_fits, cX11_fits, 3, (some .boolean), 4, 11, TX11, 16, i_Ls_fits l, hn, by decide, by decide +kernel, rfl, fun _ _ _ e => (mm_gd_inv (mm_ga_inv e).2).2, hl, q_1578, q_1579, q_163, q_1580⟩)
def p_Ls_needs : mm_P := ([(0, .aload_n 0, 1, 0), (1, .getfield 77, 3, 0), (4, .getfield 161, 3, 0), (7, .iload_n 1, 1, 0), (8, .invokevirtual 165, 3, 0), (11, .ifCond .ne 5, 3, 0), (14, .iconst (-1), 1, (-1)), (15, .ireturn, 1, 0), (16, .aload_n 0, 1, 0), (17, .getfield 77, 3, 0), (20, .getfield 108, 3, 0), (23, .iconst 0, 1, 0), (24, .aload_n 0, 1, 0), (25, .getfield 77, 3, 0), (28, .getfield 161, 3, 0), (31, .getfield 171, 3, 0), (34, .iload_n 1, 1, 0), (35, .iaload, 1, 0), (36, .invokevirtual 239, 3, 0), (39, .ireturn, 1, 0)], [(77, 11, 13, 2), (108, 8, 0, 4), (161, 8, 1, 4), (171, 5, 1, 4)], [(165, 0, 1, 1, f_Pt_hasCome), (239, 0, 2, 1, f_Rw_having)], [], [], [(0, [0, 1])], [], 2)
def f_Ls_needs : mm_F := fun args h => mm_ga [1, 1] args (mm_gd 11 args h (mm_run p_Ls_needs (mm_fu + 1) 0 args [] h))
set_option maxRecDepth 100000 in
theorem e_Ls_needs_0 (f : Nat) (t : Nat) (v1 : Int32) (h : mm_H) : mm_run p_Ls_needs (f + 1) 0 [.ref t, .int v1] [] h =
  (mm_gr 11 13 h t).bind fun r1 =>
  (mm_gr 8 1 h r1).bind fun r2 =>
  mm_ci (f_Pt_hasCome [.ref r2, .int v1] h) fun x4 h3 =>
  if x4 = 0 then
    some (some (.int (-1)), h3)
  else
    (mm_gr 11 13 h3 t).bind fun r5 =>
    (mm_gr 8 0 h3 r5).bind fun r6 =>
    (mm_gr 11 13 h3 t).bind fun r7 =>
    (mm_gr 8 1 h3 r7).bind fun r8 =>
    (mm_gr 5 1 h3 r8).bind fun r9 =>
    (mm_li h3 r9 v1).bind fun x10 =>
    mm_ci (f_Rw_having [.ref r6, .int 0, .int x10] h3) fun x12 h11 =>
    some (some (.int x12), h11) := rfl
theorem e_Ls_needs (t : Nat) (v1 : Int32) (h : mm_H) {fs : List Value} (hb : h t = some (.inr (11, fs))) : f_Ls_needs [.ref t, .int v1] h =
  (mm_gr 11 13 h t).bind fun r1 =>
  (mm_gr 8 1 h r1).bind fun r2 =>
  mm_ci (f_Pt_hasCome [.ref r2, .int v1] h) fun x4 h3 =>
  if x4 = 0 then
    some (some (.int (-1)), h3)
  else
    (mm_gr 11 13 h3 t).bind fun r5 =>
    (mm_gr 8 0 h3 r5).bind fun r6 =>
    (mm_gr 11 13 h3 t).bind fun r7 =>
    (mm_gr 8 1 h3 r7).bind fun r8 =>
    (mm_gr 5 1 h3 r8).bind fun r9 =>
    (mm_li h3 r9 v1).bind fun x10 =>
    mm_ci (f_Rw_having [.ref r6, .int 0, .int x10] h3) fun x12 h11 =>
    some (some (.int x12), h11) := (mm_ga_is rfl).trans ((mm_gd_is hb).trans (e_Ls_needs_0 mm_fu t v1 h))
set_option maxRecDepth 100000 in
theorem i_Ls_needs (l : Launch) : mm_Imp l yX11_needs cX11_needs 2 (some .int) 2 f_Ls_needs := mm_imp l (P := p_Ls_needs) mm_cls_ok mm_sys_ok (by decide) (mm_Pok_of (List.forall_mem_cons.mpr ⟨k_X11_77, (List.forall_mem_cons.mpr ⟨k_X11_108, (List.forall_mem_cons.mpr ⟨k_X11_161, (List.forall_mem_cons.mpr ⟨k_X11_171, (fun _ h => absurd h List.not_mem_nil)⟩)⟩)⟩)⟩) (List.forall_mem_cons.mpr ⟨v_Pt_hasCome l q_1001 (by decide), (List.forall_mem_cons.mpr ⟨v_Rw_having l q_1342 (by decide), (fun _ h => absurd h List.not_mem_nil)⟩)⟩) (fun _ h => absurd h List.not_mem_nil) (fun _ h => absurd h List.not_mem_nil)) (by decide +kernel) rfl (cats := [1, 1]) (fun as h r e => ⟨(mm_ga_inv e).1, (mm_gd_inv (mm_ga_inv e).2).1⟩) rfl (by decide)
theorem v_Ls_needs (l : Launch) {own : String} {i n0 : Nat} (hl : Cond.methodLink own i yX11_needs ∈ mm_tbl) (hn : 3 ≤ n0) : mm_cok l own n0 i (0, 1, 1, f_Ls_needs) := Or.inr (Or.inr ⟨rfl, yX11_needs, cX11_needs, 2, (some .int), 2, 11, TX11, 16, i_Ls_needs l, hn, by decide, by decide +kernel, rfl, fun _ _ _ e => (mm_gd_inv (mm_ga_inv e).2).2, hl, q_1584, q_1585, q_163, q_1586⟩)
def p_Ls_free : mm_P := ([(0, .aload_n 0, 1, 0), (1, .getfield 77, 3, 0), (4, .iload_n 1, 1, 0), (5, .invokevirtual 406, 3, 0), (8, .ireturn, 1, 0)], [(77, 11, 13, 2)], [(406, 0, 1, 1, f_St_canExpel)], [], [], [(0, [0, 1])], [], 1)
def f_Ls_free : mm_F := fun args h => mm_ga [1, 1] args (mm_gd 11 args h (mm_run p_Ls_free (mm_fu + 1) 0 args [] h))
set_option maxRecDepth 100000 in
theorem e_Ls_free_0 (f : Nat) (t : Nat) (v1 : Int32) (h : mm_H) : mm_run p_Ls_free (f + 1) 0 [.ref t, .int v1] [] h =
  (mm_gr 11 13 h t).bind fun r1 =>
  mm_ci (f_St_canExpel [.ref r1, .int v1] h) fun x3 h2 =>
  if x3 = 0 ∨ x3 = 1 then some (some (.int x3), h2) else none := rfl
theorem e_Ls_free (t : Nat) (v1 : Int32) (h : mm_H) {fs : List Value} (hb : h t = some (.inr (11, fs))) : f_Ls_free [.ref t, .int v1] h =
  (mm_gr 11 13 h t).bind fun r1 =>
  mm_ci (f_St_canExpel [.ref r1, .int v1] h) fun x3 h2 =>
  if x3 = 0 ∨ x3 = 1 then some (some (.int x3), h2) else none := (mm_ga_is rfl).trans ((mm_gd_is hb).trans (e_Ls_free_0 mm_fu t v1 h))
set_option maxRecDepth 100000 in
theorem i_Ls_free (l : Launch) : mm_Imp l yX11_free cX11_free 2 (some .boolean) 5 f_Ls_free := mm_imp l (P := p_Ls_free) mm_cls_ok mm_sys_ok (by decide) (mm_Pok_of (List.forall_mem_cons.mpr ⟨k_X11_77, (fun _ h => absurd h List.not_mem_nil)⟩) (List.forall_mem_cons.mpr ⟨v_St_canExpel l q_1591 (by decide), (fun _ h => absurd h List.not_mem_nil)⟩) (fun _ h => absurd h List.not_mem_nil) (fun _ h => absurd h List.not_mem_nil)) (by decide +kernel) rfl (cats := [1, 1]) (fun as h r e => ⟨(mm_ga_inv e).1, (mm_gd_inv (mm_ga_inv e).2).1⟩) rfl (by decide)
theorem v_Ls_free (l : Launch) {own : String} {i n0 : Nat} (hl : Cond.methodLink own i yX11_free ∈ mm_tbl) (hn : 6 ≤ n0) : mm_cok l own n0 i (0, 1, 1, f_Ls_free) := Or.inr (Or.inr ⟨rfl, yX11_free, cX11_free, 2, (some .boolean), 5, 11, TX11, 16, i_Ls_free l, hn, by decide, by decide +kernel, rfl, fun _ _ _ e => (mm_gd_inv (mm_ga_inv e).2).2, hl, q_1588, q_1589, q_163, q_1590⟩)
def p_Ls_would : mm_P := ([(0, .iload_n 1, 1, 0), (1, .iload_n 2, 1, 0), (2, .iload_n 3, 1, 0), (3, .invokestatic 359, 3, 0), (6, .ifCond .ne 5, 3, 0), (9, .iconst (-1), 1, (-1)), (10, .ireturn, 1, 0), (11, .aload_n 0, 1, 0), (12, .getfield 77, 3, 0), (15, .getfield 108, 3, 0), (18, .getfield 245, 3, 0), (21, .bipush 30, 2, 30), (23, .if_icmp .lt 15, 3, 0), (26, .iconst 1, 1, 1), (27, .aload_n 0, 1, 0), (28, .getfield 57, 3, 0), (31, .getfield 311, 3, 0), (34, .ishl, 1, 0), (35, .iconst 1, 1, 1), (36, .isub, 1, 0), (37, .ireturn, 1, 0), (38, .aload_n 0, 1, 0), (39, .getfield 77, 3, 0), (42, .iconst 0, 1, 0), (43, .iload_n 1, 1, 0), (44, .invokevirtual 409, 3, 0), (47, .aload_n 0, 1, 0), (48, .getfield 77, 3, 0), (51, .iconst 1, 1, 1), (52, .iload_n 2, 1, 0), (53, .invokevirtual 409, 3, 0), (56, .ior, 1, 0), (57, .aload_n 0, 1, 0), (58, .getfield 77, 3, 0), (61, .iconst 2, 1, 2), (62, .iload_n 3, 1, 0), (63, .invokevirtual 409, 3, 0), (66, .ior, 1, 0), (67, .ireturn, 1, 0)], [(57, 11, 9, 2), (77, 11, 13, 2), (108, 8, 0, 4), (245, 7, 1, 0), (311, 4, 10, 0)], [(359, 1, 3, 1, f_Ls_areValues), (409, 0, 2, 1, f_St_onceClashes)], [], [], [(0, [0, 1, 2, 3])], [], 2)
def f_Ls_would : mm_F := fun args h => mm_ga [1, 1, 1, 1] args (mm_gd 11 args h (mm_run p_Ls_would (mm_fu + 1) 0 args [] h))
set_option maxRecDepth 100000 in
theorem e_Ls_would_0 (f : Nat) (t : Nat) (v1 : Int32) (v2 : Int32) (v3 : Int32) (h : mm_H) : mm_run p_Ls_would (f + 1) 0 [.ref t, .int v1, .int v2, .int v3] [] h =
  mm_ci (f_Ls_areValues [.int v1, .int v2, .int v3] h) fun x2 h1 =>
  if x2 = 0 then
    some (some (.int (-1)), h1)
  else
    (mm_gr 11 13 h1 t).bind fun r3 =>
    (mm_gr 8 0 h1 r3).bind fun r4 =>
    (mm_gi 7 1 h1 r4).bind fun x5 =>
    if x5 < 30 then
      (mm_gr 11 13 h1 t).bind fun r6 =>
      mm_ci (f_St_onceClashes [.ref r6, .int 0, .int v1] h1) fun x8 h7 =>
      (mm_gr 11 13 h7 t).bind fun r9 =>
      mm_ci (f_St_onceClashes [.ref r9, .int 1, .int v2] h7) fun x11 h10 =>
      (mm_gr 11 13 h10 t).bind fun r12 =>
      mm_ci (f_St_onceClashes [.ref r12, .int 2, .int v3] h10) fun x14 h13 =>
      some (some (.int ((x8 ||| x11) ||| x14)), h13)
    else
      (mm_gr 11 9 h1 t).bind fun r15 =>
      (mm_gi 4 10 h1 r15).bind fun x16 =>
      some (some (.int ((1 <<< (x16 &&& 31)) - 1)), h1) := rfl
theorem e_Ls_would (t : Nat) (v1 : Int32) (v2 : Int32) (v3 : Int32) (h : mm_H) {fs : List Value} (hb : h t = some (.inr (11, fs))) : f_Ls_would [.ref t, .int v1, .int v2, .int v3] h =
  mm_ci (f_Ls_areValues [.int v1, .int v2, .int v3] h) fun x2 h1 =>
  if x2 = 0 then
    some (some (.int (-1)), h1)
  else
    (mm_gr 11 13 h1 t).bind fun r3 =>
    (mm_gr 8 0 h1 r3).bind fun r4 =>
    (mm_gi 7 1 h1 r4).bind fun x5 =>
    if x5 < 30 then
      (mm_gr 11 13 h1 t).bind fun r6 =>
      mm_ci (f_St_onceClashes [.ref r6, .int 0, .int v1] h1) fun x8 h7 =>
      (mm_gr 11 13 h7 t).bind fun r9 =>
      mm_ci (f_St_onceClashes [.ref r9, .int 1, .int v2] h7) fun x11 h10 =>
      (mm_gr 11 13 h10 t).bind fun r12 =>
      mm_ci (f_St_onceClashes [.ref r12, .int 2, .int v3] h10) fun x14 h13 =>
      some (some (.int ((x8 ||| x11) ||| x14)), h13)
    else
      (mm_gr 11 9 h1 t).bind fun r15 =>
      (mm_gi 4 10 h1 r15).bind fun x16 =>
      some (some (.int ((1 <<< (x16 &&& 31)) - 1)), h1) := (mm_ga_is rfl).trans ((mm_gd_is hb).trans (e_Ls_would_0 mm_fu t v1 v2 v3 h))
set_option maxRecDepth 100000 in
theorem i_Ls_would (l : Launch) : mm_Imp l yX11_would cX11_would 4 (some .int) 3 f_Ls_would := mm_imp l (P := p_Ls_would) mm_cls_ok mm_sys_ok (by decide) (mm_Pok_of (List.forall_mem_cons.mpr ⟨k_X11_57, (List.forall_mem_cons.mpr ⟨k_X11_77, (List.forall_mem_cons.mpr ⟨k_X11_108, (List.forall_mem_cons.mpr ⟨k_X11_245, (List.forall_mem_cons.mpr ⟨k_X11_311, (fun _ h => absurd h List.not_mem_nil)⟩)⟩)⟩)⟩)⟩) (List.forall_mem_cons.mpr ⟨v_Ls_areValues l (Or.inl q_1506) (by decide), (List.forall_mem_cons.mpr ⟨v_St_onceClashes l q_1596 (by decide), (fun _ h => absurd h List.not_mem_nil)⟩)⟩) (fun _ h => absurd h List.not_mem_nil) (fun _ h => absurd h List.not_mem_nil)) (by decide +kernel) rfl (cats := [1, 1, 1, 1]) (fun as h r e => ⟨(mm_ga_inv e).1, (mm_gd_inv (mm_ga_inv e).2).1⟩) rfl (by decide)
theorem v_Ls_would (l : Launch) {own : String} {i n0 : Nat} (hl : Cond.methodLink own i yX11_would ∈ mm_tbl) (hn : 4 ≤ n0) : mm_cok l own n0 i (0, 3, 1, f_Ls_would) := Or.inr (Or.inr ⟨rfl, yX11_would, cX11_would, 4, (some .int), 3, 11, TX11, 16, i_Ls_would l, hn, by decide, by decide +kernel, rfl, fun _ _ _ e => (mm_gd_inv (mm_ga_inv e).2).2, hl, q_1593, q_1594, q_163, q_1595⟩)
def p_Ls_count : mm_P := ([(0, .iload_n 1, 1, 0), (1, .tableswitch 141 0 9 #[55, 63, 71, 79, 90, 101, 112, 120, 128, 133], 55, 0), (56, .aload_n 0, 1, 0), (57, .getfield 57, 3, 0), (60, .getfield 296, 3, 0), (63, .ireturn, 1, 0), (64, .aload_n 0, 1, 0), (65, .getfield 57, 3, 0), (68, .getfield 412, 3, 0), (71, .ireturn, 1, 0), (72, .aload_n 0, 1, 0), (73, .getfield 57, 3, 0), (76, .getfield 311, 3, 0), (79, .ireturn, 1, 0), (80, .aload_n 0, 1, 0), (81, .getfield 77, 3, 0), (84, .getfield 108, 3, 0), (87, .getfield 245, 3, 0), (90, .ireturn, 1, 0), (91, .aload_n 0, 1, 0), (92, .getfield 77, 3, 0), (95, .getfield 108, 3, 0), (98, .invokevirtual 233, 3, 0), (101, .ireturn, 1, 0), (102, .aload_n 0, 1, 0), (103, .getfield 77, 3, 0), (106, .getfield 161, 3, 0), (109, .getfield 413, 3, 0), (112, .ireturn, 1, 0), (113, .aload_n 0, 1, 0), (114, .getfield 77, 3, 0), (117, .getfield 236, 3, 0), (120, .ireturn, 1, 0), (121, .aload_n 0, 1, 0), (122, .getfield 67, 3, 0), (125, .getfield 101, 3, 0), (128, .ireturn, 1, 0), (129, .aload_n 0, 1, 0), (130, .getfield 42, 3, 0), (133, .ireturn, 1, 0), (134, .aload_n 0, 1, 0), (135, .getfield 12, 3, 0), (138, .getfield 91, 3, 0), (141, .ireturn, 1, 0), (142, .iconst (-1), 1, (-1)), (143, .ireturn, 1, 0)], [(12, 11, 0, 4), (42, 11, 5, 0), (57, 11, 9, 2), (67, 11, 11, 2), (77, 11, 13, 2), (91, 9, 3, 0), (101, 3, 2, 0), (108, 8, 0, 4), (161, 8, 1, 4), (236, 8, 8, 0), (245, 7, 1, 0), (296, 4, 8, 0), (311, 4, 10, 0), (412, 4, 9, 0), (413, 5, 3, 0)], [(233, 0, 0, 1, f_Rw_visible)], [], [], [(0, [0, 1])], [(1, [(0, 56), (1, 64), (2, 72), (3, 80), (4, 91), (5, 102), (6, 113), (7, 121), (8, 129), (9, 134)], 142)], 2)
def f_Ls_count : mm_F := fun args h => mm_ga [1, 1] args (mm_gd 11 args h (mm_run p_Ls_count (mm_fu + 1) 0 args [] h))
set_option maxRecDepth 100000 in
theorem e_Ls_count_0 (f : Nat) (t : Nat) (v1 : Int32) (h : mm_H) : mm_run p_Ls_count (f + 1) 0 [.ref t, .int v1] [] h =
  if v1 = 0 then
    (mm_gr 11 9 h t).bind fun r1 =>
    (mm_gi 4 8 h r1).bind fun x2 =>
    some (some (.int x2), h)
  else if v1 = 1 then
    (mm_gr 11 9 h t).bind fun r3 =>
    (mm_gi 4 9 h r3).bind fun x4 =>
    some (some (.int x4), h)
  else if v1 = 2 then
    (mm_gr 11 9 h t).bind fun r5 =>
    (mm_gi 4 10 h r5).bind fun x6 =>
    some (some (.int x6), h)
  else if v1 = 3 then
    (mm_gr 11 13 h t).bind fun r7 =>
    (mm_gr 8 0 h r7).bind fun r8 =>
    (mm_gi 7 1 h r8).bind fun x9 =>
    some (some (.int x9), h)
  else if v1 = 4 then
    (mm_gr 11 13 h t).bind fun r10 =>
    (mm_gr 8 0 h r10).bind fun r11 =>
    mm_ci (f_Rw_visible [.ref r11] h) fun x13 h12 =>
    some (some (.int x13), h12)
  else if v1 = 5 then
    (mm_gr 11 13 h t).bind fun r14 =>
    (mm_gr 8 1 h r14).bind fun r15 =>
    (mm_gi 5 3 h r15).bind fun x16 =>
    some (some (.int x16), h)
  else if v1 = 6 then
    (mm_gr 11 13 h t).bind fun r17 =>
    (mm_gi 8 8 h r17).bind fun x18 =>
    some (some (.int x18), h)
  else if v1 = 7 then
    (mm_gr 11 11 h t).bind fun r19 =>
    (mm_gi 3 2 h r19).bind fun x20 =>
    some (some (.int x20), h)
  else if v1 = 8 then
    (mm_gi 11 5 h t).bind fun x21 =>
    some (some (.int x21), h)
  else if v1 = 9 then
    (mm_gr 11 0 h t).bind fun r22 =>
    (mm_gi 9 3 h r22).bind fun x23 =>
    some (some (.int x23), h)
  else 
    some (some (.int (-1)), h) := rfl
theorem e_Ls_count (t : Nat) (v1 : Int32) (h : mm_H) {fs : List Value} (hb : h t = some (.inr (11, fs))) : f_Ls_count [.ref t, .int v1] h =
  if v1 = 0 then
    (mm_gr 11 9 h t).bind fun r1 =>
    (mm_gi 4 8 h r1).bind fun x2 =>
    some (some (.int x2), h)
  else if v1 = 1 then
    (mm_gr 11 9 h t).bind fun r3 =>
    (mm_gi 4 9 h r3).bind fun x4 =>
    some (some (.int x4), h)
  else if v1 = 2 then
    (mm_gr 11 9 h t).bind fun r5 =>
    (mm_gi 4 10 h r5).bind fun x6 =>
    some (some (.int x6), h)
  else if v1 = 3 then
    (mm_gr 11 13 h t).bind fun r7 =>
    (mm_gr 8 0 h r7).bind fun r8 =>
    (mm_gi 7 1 h r8).bind fun x9 =>
    some (some (.int x9), h)
  else if v1 = 4 then
    (mm_gr 11 13 h t).bind fun r10 =>
    (mm_gr 8 0 h r10).bind fun r11 =>
    mm_ci (f_Rw_visible [.ref r11] h) fun x13 h12 =>
    some (some (.int x13), h12)
  else if v1 = 5 then
    (mm_gr 11 13 h t).bind fun r14 =>
    (mm_gr 8 1 h r14).bind fun r15 =>
    (mm_gi 5 3 h r15).bind fun x16 =>
    some (some (.int x16), h)
  else if v1 = 6 then
    (mm_gr 11 13 h t).bind fun r17 =>
    (mm_gi 8 8 h r17).bind fun x18 =>
    some (some (.int x18), h)
  else if v1 = 7 then
    (mm_gr 11 11 h t).bind fun r19 =>
    (mm_gi 3 2 h r19).bind fun x20 =>
    some (some (.int x20), h)
  else if v1 = 8 then
    (mm_gi 11 5 h t).bind fun x21 =>
    some (some (.int x21), h)
  else if v1 = 9 then
    (mm_gr 11 0 h t).bind fun r22 =>
    (mm_gi 9 3 h r22).bind fun x23 =>
    some (some (.int x23), h)
  else 
    some (some (.int (-1)), h) := (mm_ga_is rfl).trans ((mm_gd_is hb).trans (e_Ls_count_0 mm_fu t v1 h))
set_option maxRecDepth 100000 in
theorem i_Ls_count (l : Launch) : mm_Imp l yX11_count cX11_count 2 (some .int) 2 f_Ls_count := mm_imp l (P := p_Ls_count) mm_cls_ok mm_sys_ok (by decide) (mm_Pok_of (List.forall_mem_cons.mpr ⟨k_X11_12, (List.forall_mem_cons.mpr ⟨k_X11_42, (List.forall_mem_cons.mpr ⟨k_X11_57, (List.forall_mem_cons.mpr ⟨k_X11_67, (List.forall_mem_cons.mpr ⟨k_X11_77, (List.forall_mem_cons.mpr ⟨k_X11_91, (List.forall_mem_cons.mpr ⟨k_X11_101, (List.forall_mem_cons.mpr ⟨k_X11_108, (List.forall_mem_cons.mpr ⟨k_X11_161, (List.forall_mem_cons.mpr ⟨k_X11_236, (List.forall_mem_cons.mpr ⟨k_X11_245, (List.forall_mem_cons.mpr ⟨k_X11_296, (List.forall_mem_cons.mpr ⟨k_X11_311, (List.forall_mem_cons.mpr ⟨k_X11_412, (List.forall_mem_cons.mpr ⟨k_X11_413, (fun _ h => absurd h List.not_mem_nil)⟩)⟩)⟩)⟩)⟩)⟩)⟩)⟩)⟩)⟩)⟩)⟩)⟩)⟩)⟩) (List.forall_mem_cons.mpr ⟨v_Rw_visible l q_1337 (by decide), (fun _ h => absurd h List.not_mem_nil)⟩) (fun _ h => absurd h List.not_mem_nil) (fun _ h => absurd h List.not_mem_nil)) (by decide +kernel) rfl (cats := [1, 1]) (fun as h r e => ⟨(mm_ga_inv e).1, (mm_gd_inv (mm_ga_inv e).2).1⟩) rfl (by decide)
theorem v_Ls_count (l : Launch) {own : String} {i n0 : Nat} (hl : Cond.methodLink own i yX11_count ∈ mm_tbl) (hn : 3 ≤ n0) : mm_cok l own n0 i (0, 1, 1, f_Ls_count) := Or.inr (Or.inr ⟨rfl, yX11_count, cX11_count, 2, (some .int), 2, 11, TX11, 16, i_Ls_count l, hn, by decide, by decide +kernel, rfl, fun _ _ _ e => (mm_gd_inv (mm_ga_inv e).2).2, hl, q_1598, q_1599, q_163, q_1600⟩)
def p_Md_thrown : mm_P := ([(0, .aload_n 0, 1, 0), (1, .getfield 1, 3, 0), (4, .ireturn, 1, 0)], [(1, 12, 0, 0)], [], [], [], [(0, [0])], [], 2)
def f_Md_thrown : mm_F := fun args h => mm_ga [1] args (mm_gd 12 args h (mm_run p_Md_thrown (mm_fu + 1) 0 args [] h))
set_option maxRecDepth 100000 in
theorem e_Md_thrown_0 (f : Nat) (t : Nat) (h : mm_H) : mm_run p_Md_thrown (f + 1) 0 [.ref t] [] h =
  (mm_gi 12 0 h t).bind fun x1 =>
  some (some (.int x1), h) := rfl
theorem e_Md_thrown (t : Nat) (h : mm_H) {fs : List Value} (hb : h t = some (.inr (12, fs))) : f_Md_thrown [.ref t] h =
  (mm_gi 12 0 h t).bind fun x1 =>
  some (some (.int x1), h) := (mm_ga_is rfl).trans ((mm_gd_is hb).trans (e_Md_thrown_0 mm_fu t h))
set_option maxRecDepth 100000 in
theorem i_Md_thrown (l : Launch) : mm_Imp l yX12_thrown cX12_thrown 1 (some .int) 1 f_Md_thrown := mm_imp l (P := p_Md_thrown) mm_cls_ok mm_sys_ok (by decide) (mm_Pok_of (List.forall_mem_cons.mpr ⟨k_X12_1, (fun _ h => absurd h List.not_mem_nil)⟩) (fun _ h => absurd h List.not_mem_nil) (fun _ h => absurd h List.not_mem_nil) (fun _ h => absurd h List.not_mem_nil)) (by decide +kernel) rfl (cats := [1]) (fun as h r e => ⟨(mm_ga_inv e).1, (mm_gd_inv (mm_ga_inv e).2).1⟩) rfl (by decide)
theorem v_Md_thrown (l : Launch) {own : String} {i n0 : Nat} (hl : Cond.methodLink own i yX12_thrown ∈ mm_tbl) (hn : 2 ≤ n0) : mm_cok l own n0 i (0, 0, 1, f_Md_thrown) := Or.inr (Or.inr ⟨rfl, yX12_thrown, cX12_thrown, 1, (some .int), 1, 12, TX12, 27, i_Md_thrown l, hn, by decide, by decide +kernel, rfl, fun _ _ _ e => (mm_gd_inv (mm_ga_inv e).2).2, hl, q_1675, q_1676, q_179, q_1677⟩)
def p_Md_lay : mm_P := ([(0, .bipush 56, 2, 56), (2, .istore_n 3, 1, 0), (3, .iload_n 3, 1, 0), (4, .ifCond .lt 71, 3, 0), (7, .lload_n 1, 1, 0), (8, .iload_n 3, 1, 0), (9, .lshr, 1, 0), (10, .l2i, 1, 0), (11, .sipush 255, 3, 255), (14, .iand, 1, 0), (15, .istore 4, 2, 0), (17, .iload 4, 2, 0), (19, .bipush 10, 2, 10), (21, .if_icmp .eq 17, 3, 0), (24, .iload 4, 2, 0), (26, .bipush 32, 2, 32), (28, .if_icmp .lt 41, 3, 0), (31, .iload 4, 2, 0), (33, .bipush 126, 2, 126), (35, .if_icmp .gt 34, 3, 0), (38, .aload_n 0, 1, 0), (39, .getfield 11, 3, 0), (42, .sipush 1000, 3, 1000), (45, .if_icmp .ge 24, 3, 0), (48, .aload_n 0, 1, 0), (49, .getfield 14, 3, 0), (52, .aload_n 0, 1, 0), (53, .getfield 11, 3, 0), (56, .iload 4, 2, 0), (58, .iastore, 1, 0), (59, .aload_n 0, 1, 0), (60, .dup, 1, 0), (61, .getfield 11, 3, 0), (64, .iconst 1, 1, 1), (65, .iadd, 1, 0), (66, .putfield 11, 3, 0), (69, .iinc 3 (-8), 3, (-8)), (72, .goto (-69), 3, 0), (75, .return_, 1, 0)], [(11, 12, 2, 0), (14, 12, 1, 4)], [], [], [], [(0, [0, 1]), (3, [0, 1, 3])], [], 0)
def f_Md_lay : mm_F := fun args h => mm_ga [1, 2] args (mm_gd 12 args h (mm_run p_Md_lay (mm_fu + 1) 0 args [] h))
set_option maxRecDepth 100000 in
theorem e_Md_lay_0 (f : Nat) (t : Nat) (v1 : Int64) (h : mm_H) : mm_run p_Md_lay (f + 1) 0 [.ref t, .long v1] [] h =
  mm_run p_Md_lay f 3 [.ref t, .long v1, .int 56] [] h := rfl
theorem e_Md_lay (t : Nat) (v1 : Int64) (h : mm_H) {fs : List Value} (hb : h t = some (.inr (12, fs))) : f_Md_lay [.ref t, .long v1] h =
  mm_run p_Md_lay mm_fu 3 [.ref t, .long v1, .int 56] [] h := (mm_ga_is rfl).trans ((mm_gd_is hb).trans (e_Md_lay_0 mm_fu t v1 h))
set_option maxRecDepth 100000 in
theorem e_Md_lay_3 (f : Nat) (t : Nat) (v1 : Int64) (v3 : Int32) (h : mm_H) : mm_run p_Md_lay (f + 1) 3 [.ref t, .long v1, .int v3] [] h =
  if v3 < 0 then
    some (none, h)
  else
    if ((v1 >>> (v3.toInt64 &&& 63)).toInt32 &&& 255) = 10 then
      (mm_gi 12 2 h t).bind fun x1 =>
      if x1 < 1000 then
        (mm_gr 12 1 h t).bind fun r2 =>
        (mm_gi 12 2 h t).bind fun x3 =>
        (mm_si h r2 x3 ((v1 >>> (v3.toInt64 &&& 63)).toInt32 &&& 255)).bind fun h4 =>
        (mm_gi 12 2 h4 t).bind fun x5 =>
        (mm_pf 12 2 (.int (x5 + 1)) h4 t).bind fun h6 =>
        mm_run p_Md_lay f 3 [.ref t, .long v1, .int (v3 + (-8))] [] h6
      else
        mm_run p_Md_lay f 3 [.ref t, .long v1, .int (v3 + (-8))] [] h
    else
      if ((v1 >>> (v3.toInt64 &&& 63)).toInt32 &&& 255) < 32 then
        mm_run p_Md_lay f 3 [.ref t, .long v1, .int (v3 + (-8))] [] h
      else
        if (126 : Int32) < ((v1 >>> (v3.toInt64 &&& 63)).toInt32 &&& 255) then
          mm_run p_Md_lay f 3 [.ref t, .long v1, .int (v3 + (-8))] [] h
        else
          (mm_gi 12 2 h t).bind fun x7 =>
          if x7 < 1000 then
            (mm_gr 12 1 h t).bind fun r8 =>
            (mm_gi 12 2 h t).bind fun x9 =>
            (mm_si h r8 x9 ((v1 >>> (v3.toInt64 &&& 63)).toInt32 &&& 255)).bind fun h10 =>
            (mm_gi 12 2 h10 t).bind fun x11 =>
            (mm_pf 12 2 (.int (x11 + 1)) h10 t).bind fun h12 =>
            mm_run p_Md_lay f 3 [.ref t, .long v1, .int (v3 + (-8))] [] h12
          else
            mm_run p_Md_lay f 3 [.ref t, .long v1, .int (v3 + (-8))] [] h := rfl
set_option maxRecDepth 100000 in
theorem i_Md_lay (l : Launch) : mm_Imp l yX12_lay cX12_lay 5 none 1 f_Md_lay := mm_imp l (P := p_Md_lay) mm_cls_ok mm_sys_ok (by decide) (mm_Pok_of (List.forall_mem_cons.mpr ⟨k_X12_11, (List.forall_mem_cons.mpr ⟨k_X12_14, (fun _ h => absurd h List.not_mem_nil)⟩)⟩) (fun _ h => absurd h List.not_mem_nil) (fun _ h => absurd h List.not_mem_nil) (fun _ h => absurd h List.not_mem_nil)) (by decide +kernel) rfl (cats := [1, 2]) (fun as h r e => ⟨(mm_ga_inv e).1, (mm_gd_inv (mm_ga_inv e).2).1⟩) rfl (by decide)
theorem v_Md_lay (l : Launch) {own : String} {i n0 : Nat} (hl : Cond.methodLink own i yX12_lay ∈ mm_tbl) (hn : 2 ≤ n0) : mm_cok l own n0 i (0, 1, 0, f_Md_lay) := Or.inr (Or.inr ⟨rfl, yX12_lay, cX12_lay, 5, none, 1, 12, TX12, 27, i_Md_lay l, hn, by decide, by decide +kernel, rfl, fun _ _ _ e => (mm_gd_inv (mm_ga_inv e).2).2, hl, q_1684, q_49, q_179, q_1686⟩)
def p_Md_feed : mm_P := ([(0, .aload_n 0, 1, 0), (1, .iconst 0, 1, 0), (2, .putfield 1, 3, 0), (5, .aload_n 0, 1, 0), (6, .lload_n 1, 1, 0), (7, .invokevirtual 7, 3, 0), (10, .aload_n 0, 1, 0), (11, .lload_n 3, 1, 0), (12, .invokevirtual 7, 3, 0), (15, .aload_n 0, 1, 0), (16, .lload 5, 2, 0), (18, .invokevirtual 7, 3, 0), (21, .aload_n 0, 1, 0), (22, .getfield 11, 3, 0), (25, .ireturn, 1, 0)], [(1, 12, 0, 0), (11, 12, 2, 0)], [(7, 0, 1, 0, f_Md_lay)], [], [], [(0, [0, 1, 3, 5])], [], 2)
def f_Md_feed : mm_F := fun args h => mm_ga [1, 2, 2, 2] args (mm_gd 12 args h (mm_run p_Md_feed (mm_fu + 1) 0 args [] h))
set_option maxRecDepth 100000 in
theorem e_Md_feed_0 (f : Nat) (t : Nat) (v1 : Int64) (v3 : Int64) (v5 : Int64) (h : mm_H) : mm_run p_Md_feed (f + 1) 0 [.ref t, .long v1, .long v3, .long v5] [] h =
  (mm_pf 12 0 (.int 0) h t).bind fun h1 =>
  mm_cv (f_Md_lay [.ref t, .long v1] h1) fun h2 =>
  mm_cv (f_Md_lay [.ref t, .long v3] h2) fun h3 =>
  mm_cv (f_Md_lay [.ref t, .long v5] h3) fun h4 =>
  (mm_gi 12 2 h4 t).bind fun x5 =>
  some (some (.int x5), h4) := rfl
theorem e_Md_feed (t : Nat) (v1 : Int64) (v3 : Int64) (v5 : Int64) (h : mm_H) {fs : List Value} (hb : h t = some (.inr (12, fs))) : f_Md_feed [.ref t, .long v1, .long v3, .long v5] h =
  (mm_pf 12 0 (.int 0) h t).bind fun h1 =>
  mm_cv (f_Md_lay [.ref t, .long v1] h1) fun h2 =>
  mm_cv (f_Md_lay [.ref t, .long v3] h2) fun h3 =>
  mm_cv (f_Md_lay [.ref t, .long v5] h3) fun h4 =>
  (mm_gi 12 2 h4 t).bind fun x5 =>
  some (some (.int x5), h4) := (mm_ga_is rfl).trans ((mm_gd_is hb).trans (e_Md_feed_0 mm_fu t v1 v3 v5 h))
set_option maxRecDepth 100000 in
theorem i_Md_feed (l : Launch) : mm_Imp l yX12_feed cX12_feed 7 (some .int) 2 f_Md_feed := mm_imp l (P := p_Md_feed) mm_cls_ok mm_sys_ok (by decide) (mm_Pok_of (List.forall_mem_cons.mpr ⟨k_X12_1, (List.forall_mem_cons.mpr ⟨k_X12_11, (fun _ h => absurd h List.not_mem_nil)⟩)⟩) (List.forall_mem_cons.mpr ⟨v_Md_lay l q_1682 (by decide), (fun _ h => absurd h List.not_mem_nil)⟩) (fun _ h => absurd h List.not_mem_nil) (fun _ h => absurd h List.not_mem_nil)) (by decide +kernel) rfl (cats := [1, 2, 2, 2]) (fun as h r e => ⟨(mm_ga_inv e).1, (mm_gd_inv (mm_ga_inv e).2).1⟩) rfl (by decide)
theorem v_Md_feed (l : Launch) {own : String} {i n0 : Nat} (hl : Cond.methodLink own i yX12_feed ∈ mm_tbl) (hn : 3 ≤ n0) : mm_cok l own n0 i (0, 3, 1, f_Md_feed) := Or.inr (Or.inr ⟨rfl, yX12_feed, cX12_feed, 7, (some .int), 2, 12, TX12, 27, i_Md_feed l, hn, by decide, by decide +kernel, rfl, fun _ _ _ e => (mm_gd_inv (mm_ga_inv e).2).2, hl, q_1679, q_1680, q_179, q_1681⟩)
def p_Md_standsAsAlways : mm_P := ([(0, .iconst 0, 1, 0), (1, .istore_n 2, 1, 0), (2, .iload_n 2, 1, 0), (3, .bipush 53, 2, 53), (5, .if_icmp .ge 18, 3, 0), (8, .aload_n 0, 1, 0), (9, .getfield 111, 3, 0), (12, .iload_n 1, 1, 0), (13, .iload_n 2, 1, 0), (14, .iadd, 1, 0), (15, .iconst 0, 1, 0), (16, .iastore, 1, 0), (17, .iinc 2 1, 3, 1), (20, .goto (-18), 3, 0), (23, .aload_n 0, 1, 0), (24, .getfield 111, 3, 0), (27, .iload_n 1, 1, 0), (28, .iconst 0, 1, 0), (29, .iadd, 1, 0), (30, .iconst 4, 1, 4), (31, .iastore, 1, 0), (32, .aload_n 0, 1, 0), (33, .getfield 111, 3, 0), (36, .iload_n 1, 1, 0), (37, .iconst 1, 1, 1), (38, .iadd, 1, 0), (39, .iconst 2, 1, 2), (40, .iastore, 1, 0), (41, .return_, 1, 0)], [(111, 12, 10, 4)], [], [], [], [(0, [0, 1]), (2, [0, 1, 2])], [], 0)
def f_Md_standsAsAlways : mm_F := fun args h => mm_ga [1, 1] args (mm_gd 12 args h (mm_run p_Md_standsAsAlways (mm_fu + 1) 0 args [] h))
set_option maxRecDepth 100000 in
theorem e_Md_standsAsAlways_0 (f : Nat) (t : Nat) (v1 : Int32) (h : mm_H) : mm_run p_Md_standsAsAlways (f + 1) 0 [.ref t, .int v1] [] h =
  mm_run p_Md_standsAsAlways f 2 [.ref t, .int v1, .int 0] [] h := rfl
theorem e_Md_standsAsAlways (t : Nat) (v1 : Int32) (h : mm_H) {fs : List Value} (hb : h t = some (.inr (12, fs))) : f_Md_standsAsAlways [.ref t, .int v1] h =
  mm_run p_Md_standsAsAlways mm_fu 2 [.ref t, .int v1, .int 0] [] h := (mm_ga_is rfl).trans ((mm_gd_is hb).trans (e_Md_standsAsAlways_0 mm_fu t v1 h))
set_option maxRecDepth 100000 in
theorem e_Md_standsAsAlways_2 (f : Nat) (t : Nat) (v1 : Int32) (v2 : Int32) (h : mm_H) : mm_run p_Md_standsAsAlways (f + 1) 2 [.ref t, .int v1, .int v2] [] h =
  if v2 < 53 then
    (mm_gr 12 10 h t).bind fun r1 =>
    (mm_si h r1 (v1 + v2) 0).bind fun h2 =>
    mm_run p_Md_standsAsAlways f 2 [.ref t, .int v1, .int (v2 + 1)] [] h2
  else
    (mm_gr 12 10 h t).bind fun r3 =>
    (mm_si h r3 (v1 + 0) 4).bind fun h4 =>
    (mm_gr 12 10 h4 t).bind fun r5 =>
    (mm_si h4 r5 (v1 + 1) 2).bind fun h6 =>
    some (none, h6) := rfl
set_option maxRecDepth 100000 in
theorem i_Md_standsAsAlways (l : Launch) : mm_Imp l yX12_standsAsAlways cX12_standsAsAlways 3 none 1 f_Md_standsAsAlways := mm_imp l (P := p_Md_standsAsAlways) mm_cls_ok mm_sys_ok (by decide) (mm_Pok_of (List.forall_mem_cons.mpr ⟨k_X12_111, (fun _ h => absurd h List.not_mem_nil)⟩) (fun _ h => absurd h List.not_mem_nil) (fun _ h => absurd h List.not_mem_nil) (fun _ h => absurd h List.not_mem_nil)) (by decide +kernel) rfl (cats := [1, 1]) (fun as h r e => ⟨(mm_ga_inv e).1, (mm_gd_inv (mm_ga_inv e).2).1⟩) rfl (by decide)
theorem v_Md_standsAsAlways (l : Launch) {own : String} {i n0 : Nat} (hl : Cond.methodLink own i yX12_standsAsAlways ∈ mm_tbl) (hn : 2 ≤ n0) : mm_cok l own n0 i (0, 1, 0, f_Md_standsAsAlways) := Or.inr (Or.inr ⟨rfl, yX12_standsAsAlways, cX12_standsAsAlways, 3, none, 1, 12, TX12, 27, i_Md_standsAsAlways l, hn, by decide, by decide +kernel, rfl, fun _ _ _ e => (mm_gd_inv (mm_ga_inv e).2).2, hl, q_1731, q_50, q_179, q_1732⟩)
def p_Md_indexes : mm_P := ([(0, .aload_n 0, 1, 0), (1, .getfield 111, 3, 0), (4, .iconst 2, 1, 2), (5, .iaload, 1, 0), (6, .ireturn, 1, 0)], [(111, 12, 10, 4)], [], [], [], [(0, [0])], [], 2)
def f_Md_indexes : mm_F := fun args h => mm_ga [1] args (mm_gd 12 args h (mm_run p_Md_indexes (mm_fu + 1) 0 args [] h))
set_option maxRecDepth 100000 in
theorem e_Md_indexes_0 (f : Nat) (t : Nat) (h : mm_H) : mm_run p_Md_indexes (f + 1) 0 [.ref t] [] h =
  (mm_gr 12 10 h t).bind fun r1 =>
  (mm_li h r1 2).bind fun x2 =>
  some (some (.int x2), h) := rfl
theorem e_Md_indexes (t : Nat) (h : mm_H) {fs : List Value} (hb : h t = some (.inr (12, fs))) : f_Md_indexes [.ref t] h =
  (mm_gr 12 10 h t).bind fun r1 =>
  (mm_li h r1 2).bind fun x2 =>
  some (some (.int x2), h) := (mm_ga_is rfl).trans ((mm_gd_is hb).trans (e_Md_indexes_0 mm_fu t h))
set_option maxRecDepth 100000 in
theorem i_Md_indexes (l : Launch) : mm_Imp l yX12_indexes cX12_indexes 1 (some .int) 1 f_Md_indexes := mm_imp l (P := p_Md_indexes) mm_cls_ok mm_sys_ok (by decide) (mm_Pok_of (List.forall_mem_cons.mpr ⟨k_X12_111, (fun _ h => absurd h List.not_mem_nil)⟩) (fun _ h => absurd h List.not_mem_nil) (fun _ h => absurd h List.not_mem_nil) (fun _ h => absurd h List.not_mem_nil)) (by decide +kernel) rfl (cats := [1]) (fun as h r e => ⟨(mm_ga_inv e).1, (mm_gd_inv (mm_ga_inv e).2).1⟩) rfl (by decide)
theorem v_Md_indexes (l : Launch) {own : String} {i n0 : Nat} (hl : Cond.methodLink own i yX12_indexes ∈ mm_tbl) (hn : 2 ≤ n0) : mm_cok l own n0 i (0, 0, 1, f_Md_indexes) := Or.inr (Or.inr ⟨rfl, yX12_indexes, cX12_indexes, 1, (some .int), 1, 12, TX12, 27, i_Md_indexes l, hn, by decide, by decide +kernel, rfl, fun _ _ _ e => (mm_gd_inv (mm_ga_inv e).2).2, hl, q_1743, q_53, q_179, q_1744⟩)
def p_Md_kindOf : mm_P := ([(0, .aload_n 0, 1, 0), (1, .getfield 111, 3, 0), (4, .bipush 9, 2, 9), (6, .iload_n 1, 1, 0), (7, .iadd, 1, 0), (8, .iaload, 1, 0), (9, .ireturn, 1, 0)], [(111, 12, 10, 4)], [], [], [], [(0, [0, 1])], [], 2)
def f_Md_kindOf : mm_F := fun args h => mm_ga [1, 1] args (mm_gd 12 args h (mm_run p_Md_kindOf (mm_fu + 1) 0 args [] h))
set_option maxRecDepth 100000 in
theorem e_Md_kindOf_0 (f : Nat) (t : Nat) (v1 : Int32) (h : mm_H) : mm_run p_Md_kindOf (f + 1) 0 [.ref t, .int v1] [] h =
  (mm_gr 12 10 h t).bind fun r1 =>
  (mm_li h r1 (9 + v1)).bind fun x2 =>
  some (some (.int x2), h) := rfl
theorem e_Md_kindOf (t : Nat) (v1 : Int32) (h : mm_H) {fs : List Value} (hb : h t = some (.inr (12, fs))) : f_Md_kindOf [.ref t, .int v1] h =
  (mm_gr 12 10 h t).bind fun r1 =>
  (mm_li h r1 (9 + v1)).bind fun x2 =>
  some (some (.int x2), h) := (mm_ga_is rfl).trans ((mm_gd_is hb).trans (e_Md_kindOf_0 mm_fu t v1 h))
set_option maxRecDepth 100000 in
theorem i_Md_kindOf (l : Launch) : mm_Imp l yX12_kindOf cX12_kindOf 2 (some .int) 1 f_Md_kindOf := mm_imp l (P := p_Md_kindOf) mm_cls_ok mm_sys_ok (by decide) (mm_Pok_of (List.forall_mem_cons.mpr ⟨k_X12_111, (fun _ h => absurd h List.not_mem_nil)⟩) (fun _ h => absurd h List.not_mem_nil) (fun _ h => absurd h List.not_mem_nil) (fun _ h => absurd h List.not_mem_nil)) (by decide +kernel) rfl (cats := [1, 1]) (fun as h r e => ⟨(mm_ga_inv e).1, (mm_gd_inv (mm_ga_inv e).2).1⟩) rfl (by decide)
theorem v_Md_kindOf (l : Launch) {own : String} {i n0 : Nat} (hl : Cond.methodLink own i yX12_kindOf ∈ mm_tbl) (hn : 2 ≤ n0) : mm_cok l own n0 i (0, 1, 1, f_Md_kindOf) := Or.inr (Or.inr ⟨rfl, yX12_kindOf, cX12_kindOf, 2, (some .int), 1, 12, TX12, 27, i_Md_kindOf l, hn, by decide, by decide +kernel, rfl, fun _ _ _ e => (mm_gd_inv (mm_ga_inv e).2).2, hl, q_1751, q_55, q_179, q_1752⟩)
def p_Md_columnOf : mm_P := ([(0, .iload_n 1, 1, 0), (1, .ifCond .ne 11, 3, 0), (4, .iload_n 0, 1, 0), (5, .sipush 1000, 3, 1000), (8, .irem, 1, 0), (9, .goto 24, 3, 0), (12, .iload_n 1, 1, 0), (13, .iconst 1, 1, 1), (14, .if_icmp .ne 15, 3, 0), (17, .iload_n 0, 1, 0), (18, .sipush 1000, 3, 1000), (21, .idiv, 1, 0), (22, .sipush 1000, 3, 1000), (25, .irem, 1, 0), (26, .goto 7, 3, 0), (29, .iload_n 0, 1, 0), (30, .ldc 190, 2, 0), (32, .idiv, 1, 0), (33, .ireturn, 1, 0)], [], [], [(190, 1000000)], [], [(0, [0, 1])], [], 2)
def f_Md_columnOf : mm_F := fun args h => mm_ga [1, 1] args (mm_run p_Md_columnOf (mm_fu + 1) 0 args [] h)
set_option maxRecDepth 100000 in
theorem e_Md_columnOf_0 (f : Nat) (v0 : Int32) (v1 : Int32) (h : mm_H) : mm_run p_Md_columnOf (f + 1) 0 [.int v0, .int v1] [] h =
  if v1 = 0 then
    some (some (.int (mm_rem v0 1000)), h)
  else
    if v1 = 1 then
      some (some (.int (mm_rem (v0 / 1000) 1000)), h)
    else
      some (some (.int (v0 / 1000000)), h) := rfl
theorem e_Md_columnOf (v0 : Int32) (v1 : Int32) (h : mm_H) : f_Md_columnOf [.int v0, .int v1] h =
  if v1 = 0 then
    some (some (.int (mm_rem v0 1000)), h)
  else
    if v1 = 1 then
      some (some (.int (mm_rem (v0 / 1000) 1000)), h)
    else
      some (some (.int (v0 / 1000000)), h) := (mm_ga_is rfl).trans (e_Md_columnOf_0 mm_fu v0 v1 h)
set_option maxRecDepth 100000 in
theorem i_Md_columnOf (l : Launch) : mm_Imp l yX12_columnOf cX12_columnOf 2 (some .int) 1 f_Md_columnOf := mm_imp l (P := p_Md_columnOf) mm_cls_ok mm_sys_ok (by decide) (mm_Pok_of (fun _ h => absurd h List.not_mem_nil) (fun _ h => absurd h List.not_mem_nil) (List.forall_mem_cons.mpr ⟨q_1768, (fun _ h => absurd h List.not_mem_nil)⟩) (fun _ h => absurd h List.not_mem_nil)) (by decide +kernel) rfl (cats := [1, 1]) (fun as h r e => ⟨(mm_ga_inv e).1, (mm_ga_inv e).2⟩) rfl (by decide)
theorem v_Md_columnOf (l : Launch) {own : String} {i n0 : Nat} (hl : Cond.methodLink own i yX12_columnOf ∈ mm_tbl ∨ ∃ host, Cond.methodLinkNest own i yX12_columnOf host ∈ mm_nest) (hn : 2 ≤ n0) : mm_cok l own n0 i (1, 2, 1, f_Md_columnOf) := Or.inr (Or.inl ⟨rfl, yX12_columnOf, cX12_columnOf, 2, (some .int), 1, i_Md_columnOf l, hn, by decide, by decide +kernel, hl, q_1766, q_179, q_1767⟩)
def p_Md_valueOf : mm_P := ([(0, .aload_n 0, 1, 0), (1, .getfield 123, 3, 0), (4, .iload_n 1, 1, 0), (5, .bipush 13, 2, 13), (7, .iadd, 1, 0), (8, .iload_n 2, 1, 0), (9, .iadd, 1, 0), (10, .iaload, 1, 0), (11, .iload_n 3, 1, 0), (12, .invokestatic 242, 3, 0), (15, .ireturn, 1, 0)], [(123, 12, 14, 4)], [(242, 1, 2, 1, f_Md_columnOf)], [], [], [(0, [0, 1, 2, 3])], [], 2)
def f_Md_valueOf : mm_F := fun args h => mm_ga [1, 1, 1, 1] args (mm_gd 12 args h (mm_run p_Md_valueOf (mm_fu + 1) 0 args [] h))
set_option maxRecDepth 100000 in
theorem e_Md_valueOf_0 (f : Nat) (t : Nat) (v1 : Int32) (v2 : Int32) (v3 : Int32) (h : mm_H) : mm_run p_Md_valueOf (f + 1) 0 [.ref t, .int v1, .int v2, .int v3] [] h =
  (mm_gr 12 14 h t).bind fun r1 =>
  (mm_li h r1 ((v1 + 13) + v2)).bind fun x2 =>
  mm_ci (f_Md_columnOf [.int x2, .int v3] h) fun x4 h3 =>
  some (some (.int x4), h3) := rfl
theorem e_Md_valueOf (t : Nat) (v1 : Int32) (v2 : Int32) (v3 : Int32) (h : mm_H) {fs : List Value} (hb : h t = some (.inr (12, fs))) : f_Md_valueOf [.ref t, .int v1, .int v2, .int v3] h =
  (mm_gr 12 14 h t).bind fun r1 =>
  (mm_li h r1 ((v1 + 13) + v2)).bind fun x2 =>
  mm_ci (f_Md_columnOf [.int x2, .int v3] h) fun x4 h3 =>
  some (some (.int x4), h3) := (mm_ga_is rfl).trans ((mm_gd_is hb).trans (e_Md_valueOf_0 mm_fu t v1 v2 v3 h))
set_option maxRecDepth 100000 in
theorem i_Md_valueOf (l : Launch) : mm_Imp l yX12_valueOf cX12_valueOf 4 (some .int) 2 f_Md_valueOf := mm_imp l (P := p_Md_valueOf) mm_cls_ok mm_sys_ok (by decide) (mm_Pok_of (List.forall_mem_cons.mpr ⟨k_X12_123, (fun _ h => absurd h List.not_mem_nil)⟩) (List.forall_mem_cons.mpr ⟨v_Md_columnOf l (Or.inl q_1765) (by decide), (fun _ h => absurd h List.not_mem_nil)⟩) (fun _ h => absurd h List.not_mem_nil) (fun _ h => absurd h List.not_mem_nil)) (by decide +kernel) rfl (cats := [1, 1, 1, 1]) (fun as h r e => ⟨(mm_ga_inv e).1, (mm_gd_inv (mm_ga_inv e).2).1⟩) rfl (by decide)
theorem v_Md_valueOf (l : Launch) {own : String} {i n0 : Nat} (hl : Cond.methodLink own i yX12_valueOf ∈ mm_tbl) (hn : 3 ≤ n0) : mm_cok l own n0 i (0, 3, 1, f_Md_valueOf) := Or.inr (Or.inr ⟨rfl, yX12_valueOf, cX12_valueOf, 4, (some .int), 2, 12, TX12, 27, i_Md_valueOf l, hn, by decide, by decide +kernel, rfl, fun _ _ _ e => (mm_gd_inv (mm_ga_inv e).2).2, hl, q_1763, q_58, q_179, q_1764⟩)
def p_Md_within : mm_P := ([(0, .iload_n 0, 1, 0), (1, .iload_n 1, 1, 0), (2, .if_icmp .lt 12, 3, 0), (5, .iload_n 0, 1, 0), (6, .iload_n 2, 1, 0), (7, .if_icmp .gt 7, 3, 0), (10, .iconst 1, 1, 1), (11, .goto 4, 3, 0), (14, .iconst 0, 1, 0), (15, .ireturn, 1, 0)], [], [], [], [], [(0, [0, 1, 2])], [], 1)
def f_Md_within : mm_F := fun args h => mm_ga [1, 1, 1] args (mm_run p_Md_within (mm_fu + 1) 0 args [] h)
set_option maxRecDepth 100000 in
theorem e_Md_within_0 (f : Nat) (v0 : Int32) (v1 : Int32) (v2 : Int32) (h : mm_H) : mm_run p_Md_within (f + 1) 0 [.int v0, .int v1, .int v2] [] h =
  if v0 < v1 then
    some (some (.int 0), h)
  else
    if v2 < v0 then
      some (some (.int 0), h)
    else
      some (some (.int 1), h) := rfl
theorem e_Md_within (v0 : Int32) (v1 : Int32) (v2 : Int32) (h : mm_H) : f_Md_within [.int v0, .int v1, .int v2] h =
  if v0 < v1 then
    some (some (.int 0), h)
  else
    if v2 < v0 then
      some (some (.int 0), h)
    else
      some (some (.int 1), h) := (mm_ga_is rfl).trans (e_Md_within_0 mm_fu v0 v1 v2 h)
set_option maxRecDepth 100000 in
theorem i_Md_within (l : Launch) : mm_Imp l yX12_within cX12_within 3 (some .boolean) 1 f_Md_within := mm_imp l (P := p_Md_within) mm_cls_ok mm_sys_ok (by decide) (mm_Pok_of (fun _ h => absurd h List.not_mem_nil) (fun _ h => absurd h List.not_mem_nil) (fun _ h => absurd h List.not_mem_nil) (fun _ h => absurd h List.not_mem_nil)) (by decide +kernel) rfl (cats := [1, 1, 1]) (fun as h r e => ⟨(mm_ga_inv e).1, (mm_ga_inv e).2⟩) rfl (by decide)
theorem v_Md_within (l : Launch) {own : String} {i n0 : Nat} (hl : Cond.methodLink own i yX12_within ∈ mm_tbl ∨ ∃ host, Cond.methodLinkNest own i yX12_within host ∈ mm_nest) (hn : 2 ≤ n0) : mm_cok l own n0 i (1, 3, 1, f_Md_within) := Or.inr (Or.inl ⟨rfl, yX12_within, cX12_within, 3, (some .boolean), 1, i_Md_within l, hn, by decide, by decide +kernel, hl, q_1770, q_179, q_1771⟩)
def p_Md_visible : mm_P := ([(0, .aload_n 0, 1, 0), (1, .getfield 123, 3, 0), (4, .iload_n 1, 1, 0), (5, .iconst 0, 1, 0), (6, .iadd, 1, 0), (7, .iaload, 1, 0), (8, .aload_n 0, 1, 0), (9, .getfield 123, 3, 0), (12, .iload_n 1, 1, 0), (13, .iconst 1, 1, 1), (14, .iadd, 1, 0), (15, .iaload, 1, 0), (16, .iconst (-1), 1, (-1)), (17, .ixor, 1, 0), (18, .iand, 1, 0), (19, .ireturn, 1, 0)], [(123, 12, 14, 4)], [], [], [], [(0, [0, 1])], [], 2)
def f_Md_visible : mm_F := fun args h => mm_ga [1, 1] args (mm_gd 12 args h (mm_run p_Md_visible (mm_fu + 1) 0 args [] h))
set_option maxRecDepth 100000 in
theorem e_Md_visible_0 (f : Nat) (t : Nat) (v1 : Int32) (h : mm_H) : mm_run p_Md_visible (f + 1) 0 [.ref t, .int v1] [] h =
  (mm_gr 12 14 h t).bind fun r1 =>
  (mm_li h r1 (v1 + 0)).bind fun x2 =>
  (mm_gr 12 14 h t).bind fun r3 =>
  (mm_li h r3 (v1 + 1)).bind fun x4 =>
  some (some (.int (x2 &&& (x4 ^^^ (-1)))), h) := rfl
theorem e_Md_visible (t : Nat) (v1 : Int32) (h : mm_H) {fs : List Value} (hb : h t = some (.inr (12, fs))) : f_Md_visible [.ref t, .int v1] h =
  (mm_gr 12 14 h t).bind fun r1 =>
  (mm_li h r1 (v1 + 0)).bind fun x2 =>
  (mm_gr 12 14 h t).bind fun r3 =>
  (mm_li h r3 (v1 + 1)).bind fun x4 =>
  some (some (.int (x2 &&& (x4 ^^^ (-1)))), h) := (mm_ga_is rfl).trans ((mm_gd_is hb).trans (e_Md_visible_0 mm_fu t v1 h))
set_option maxRecDepth 100000 in
theorem i_Md_visible (l : Launch) : mm_Imp l yX12_visible cX12_visible 2 (some .int) 1 f_Md_visible := mm_imp l (P := p_Md_visible) mm_cls_ok mm_sys_ok (by decide) (mm_Pok_of (List.forall_mem_cons.mpr ⟨k_X12_123, (fun _ h => absurd h List.not_mem_nil)⟩) (fun _ h => absurd h List.not_mem_nil) (fun _ h => absurd h List.not_mem_nil) (fun _ h => absurd h List.not_mem_nil)) (by decide +kernel) rfl (cats := [1, 1]) (fun as h r e => ⟨(mm_ga_inv e).1, (mm_gd_inv (mm_ga_inv e).2).1⟩) rfl (by decide)
theorem v_Md_visible (l : Launch) {own : String} {i n0 : Nat} (hl : Cond.methodLink own i yX12_visible ∈ mm_tbl) (hn : 2 ≤ n0) : mm_cok l own n0 i (0, 1, 1, f_Md_visible) := Or.inr (Or.inr ⟨rfl, yX12_visible, cX12_visible, 2, (some .int), 1, 12, TX12, 27, i_Md_visible l, hn, by decide, by decide +kernel, rfl, fun _ _ _ e => (mm_gd_inv (mm_ga_inv e).2).2, hl, q_1774, q_59, q_179, q_1775⟩)
def p_Md_has : mm_P := ([(0, .iload_n 0, 1, 0), (1, .iload_n 1, 1, 0), (2, .ishr, 1, 0), (3, .iconst 1, 1, 1), (4, .iand, 1, 0), (5, .iconst 1, 1, 1), (6, .if_icmp .ne 7, 3, 0), (9, .iconst 1, 1, 1), (10, .goto 4, 3, 0), (13, .iconst 0, 1, 0), (14, .ireturn, 1, 0)], [], [], [], [], [(0, [0, 1])], [], 1)
def f_Md_has : mm_F := fun args h => mm_ga [1, 1] args (mm_run p_Md_has (mm_fu + 1) 0 args [] h)
set_option maxRecDepth 100000 in
theorem e_Md_has_0 (f : Nat) (v0 : Int32) (v1 : Int32) (h : mm_H) : mm_run p_Md_has (f + 1) 0 [.int v0, .int v1] [] h =
  if ((v0 >>> (v1 &&& 31)) &&& 1) = 1 then
    some (some (.int 1), h)
  else
    some (some (.int 0), h) := rfl
theorem e_Md_has (v0 : Int32) (v1 : Int32) (h : mm_H) : f_Md_has [.int v0, .int v1] h =
  if ((v0 >>> (v1 &&& 31)) &&& 1) = 1 then
    some (some (.int 1), h)
  else
    some (some (.int 0), h) := (mm_ga_is rfl).trans (e_Md_has_0 mm_fu v0 v1 h)
set_option maxRecDepth 100000 in
theorem i_Md_has (l : Launch) : mm_Imp l yX12_has cX12_has 2 (some .boolean) 1 f_Md_has := mm_imp l (P := p_Md_has) mm_cls_ok mm_sys_ok (by decide) (mm_Pok_of (fun _ h => absurd h List.not_mem_nil) (fun _ h => absurd h List.not_mem_nil) (fun _ h => absurd h List.not_mem_nil) (fun _ h => absurd h List.not_mem_nil)) (by decide +kernel) rfl (cats := [1, 1]) (fun as h r e => ⟨(mm_ga_inv e).1, (mm_ga_inv e).2⟩) rfl (by decide)
theorem v_Md_has (l : Launch) {own : String} {i n0 : Nat} (hl : Cond.methodLink own i yX12_has ∈ mm_tbl ∨ ∃ host, Cond.methodLinkNest own i yX12_has host ∈ mm_nest) (hn : 2 ≤ n0) : mm_cok l own n0 i (1, 2, 1, f_Md_has) := Or.inr (Or.inl ⟨rfl, yX12_has, cX12_has, 2, (some .boolean), 1, i_Md_has l, hn, by decide, by decide +kernel, hl, q_1781, q_179, q_1782⟩)
def p_Md_having : mm_P := ([(0, .iconst 0, 1, 0), (1, .istore 5, 2, 0), (3, .iconst 0, 1, 0), (4, .istore 6, 2, 0), (6, .iload 6, 2, 0), (8, .bipush 30, 2, 30), (10, .if_icmp .ge 44, 3, 0), (13, .iload 5, 2, 0), (15, .iload_n 2, 1, 0), (16, .iload 6, 2, 0), (18, .invokestatic 282, 3, 0), (21, .ifCond .eq 23, 3, 0), (24, .aload_n 0, 1, 0), (25, .iload_n 1, 1, 0), (26, .iload 6, 2, 0), (28, .iload_n 3, 1, 0), (29, .invokevirtual 286, 3, 0), (32, .iload 4, 2, 0), (34, .if_icmp .ne 10, 3, 0), (37, .iconst 1, 1, 1), (38, .iload 6, 2, 0), (40, .ishl, 1, 0), (41, .goto 4, 3, 0), (44, .iconst 0, 1, 0), (45, .ior, 1, 0), (46, .istore 5, 2, 0), (48, .iinc 6 1, 3, 1), (51, .goto (-45), 3, 0), (54, .iload 5, 2, 0), (56, .ireturn, 1, 0)], [], [(282, 1, 2, 1, f_Md_has), (286, 0, 3, 1, f_Md_valueOf)], [], [], [(0, [0, 1, 2, 3, 4]), (6, [0, 1, 2, 3, 4, 5, 6])], [], 2)
def f_Md_having : mm_F := fun args h => mm_ga [1, 1, 1, 1, 1] args (mm_gd 12 args h (mm_run p_Md_having (mm_fu + 1) 0 args [] h))
set_option maxRecDepth 100000 in
theorem e_Md_having_0 (f : Nat) (t : Nat) (v1 : Int32) (v2 : Int32) (v3 : Int32) (v4 : Int32) (h : mm_H) : mm_run p_Md_having (f + 1) 0 [.ref t, .int v1, .int v2, .int v3, .int v4] [] h =
  mm_run p_Md_having f 6 [.ref t, .int v1, .int v2, .int v3, .int v4, .int 0, .int 0] [] h := rfl
theorem e_Md_having (t : Nat) (v1 : Int32) (v2 : Int32) (v3 : Int32) (v4 : Int32) (h : mm_H) {fs : List Value} (hb : h t = some (.inr (12, fs))) : f_Md_having [.ref t, .int v1, .int v2, .int v3, .int v4] h =
  mm_run p_Md_having mm_fu 6 [.ref t, .int v1, .int v2, .int v3, .int v4, .int 0, .int 0] [] h := (mm_ga_is rfl).trans ((mm_gd_is hb).trans (e_Md_having_0 mm_fu t v1 v2 v3 v4 h))
set_option maxRecDepth 100000 in
theorem e_Md_having_6 (f : Nat) (t : Nat) (v1 : Int32) (v2 : Int32) (v3 : Int32) (v4 : Int32) (v5 : Int32) (v6 : Int32) (h : mm_H) : mm_run p_Md_having (f + 1) 6 [.ref t, .int v1, .int v2, .int v3, .int v4, .int v5, .int v6] [] h =
  if v6 < 30 then
    mm_ci (f_Md_has [.int v2, .int v6] h) fun x2 h1 =>
    if x2 = 0 then
      mm_run p_Md_having f 6 [.ref t, .int v1, .int v2, .int v3, .int v4, .int (v5 ||| 0), .int (v6 + 1)] [] h1
    else
      mm_ci (f_Md_valueOf [.ref t, .int v1, .int v6, .int v3] h1) fun x4 h3 =>
      if x4 = v4 then
        mm_run p_Md_having f 6 [.ref t, .int v1, .int v2, .int v3, .int v4, .int (v5 ||| (1 <<< (v6 &&& 31))), .int (v6 + 1)] [] h3
      else
        mm_run p_Md_having f 6 [.ref t, .int v1, .int v2, .int v3, .int v4, .int (v5 ||| 0), .int (v6 + 1)] [] h3
  else
    some (some (.int v5), h) := rfl
set_option maxRecDepth 100000 in
theorem i_Md_having (l : Launch) : mm_Imp l yX12_having cX12_having 7 (some .int) 3 f_Md_having := mm_imp l (P := p_Md_having) mm_cls_ok mm_sys_ok (by decide) (mm_Pok_of (fun _ h => absurd h List.not_mem_nil) (List.forall_mem_cons.mpr ⟨v_Md_has l (Or.inl q_1780) (by decide), (List.forall_mem_cons.mpr ⟨v_Md_valueOf l q_1761 (by decide), (fun _ h => absurd h List.not_mem_nil)⟩)⟩) (fun _ h => absurd h List.not_mem_nil) (fun _ h => absurd h List.not_mem_nil)) (by decide +kernel) rfl (cats := [1, 1, 1, 1, 1]) (fun as h r e => ⟨(mm_ga_inv e).1, (mm_gd_inv (mm_ga_inv e).2).1⟩) rfl (by decide)
theorem v_Md_having (l : Launch) {own : String} {i n0 : Nat} (hl : Cond.methodLink own i yX12_having ∈ mm_tbl) (hn : 4 ≤ n0) : mm_cok l own n0 i (0, 4, 1, f_Md_having) := Or.inr (Or.inr ⟨rfl, yX12_having, cX12_having, 7, (some .int), 3, 12, TX12, 27, i_Md_having l, hn, by decide, by decide +kernel, rfl, fun _ _ _ e => (mm_gd_inv (mm_ga_inv e).2).2, hl, q_1778, q_60, q_179, q_1779⟩)
def p_Md_isPointed : mm_P := ([(0, .iconst 0, 1, 0), (1, .istore_n 3, 1, 0), (2, .iconst 0, 1, 0), (3, .istore 4, 2, 0), (5, .iload 4, 2, 0), (7, .aload_n 0, 1, 0), (8, .getfield 123, 3, 0), (11, .iload_n 1, 1, 0), (12, .iconst 4, 1, 4), (13, .iadd, 1, 0), (14, .iaload, 1, 0), (15, .if_icmp .ge 35, 3, 0), (18, .iload_n 3, 1, 0), (19, .ifCond .ne 19, 3, 0), (22, .aload_n 0, 1, 0), (23, .getfield 123, 3, 0), (26, .iload_n 1, 1, 0), (27, .bipush 55, 2, 55), (29, .iadd, 1, 0), (30, .iload 4, 2, 0), (32, .iadd, 1, 0), (33, .iaload, 1, 0), (34, .iload_n 2, 1, 0), (35, .if_icmp .ne 7, 3, 0), (38, .iconst 1, 1, 1), (39, .goto 4, 3, 0), (42, .iconst 0, 1, 0), (43, .istore_n 3, 1, 0), (44, .iinc 4 1, 3, 1), (47, .goto (-42), 3, 0), (50, .iload_n 3, 1, 0), (51, .ireturn, 1, 0)], [(123, 12, 14, 4)], [], [], [], [(0, [0, 1, 2]), (5, [0, 1, 2, 3, 4])], [], 1)
def f_Md_isPointed : mm_F := fun args h => mm_ga [1, 1, 1] args (mm_gd 12 args h (mm_run p_Md_isPointed (mm_fu + 1) 0 args [] h))
set_option maxRecDepth 100000 in
theorem e_Md_isPointed_0 (f : Nat) (t : Nat) (v1 : Int32) (v2 : Int32) (h : mm_H) : mm_run p_Md_isPointed (f + 1) 0 [.ref t, .int v1, .int v2] [] h =
  mm_run p_Md_isPointed f 5 [.ref t, .int v1, .int v2, .int 0, .int 0] [] h := rfl
theorem e_Md_isPointed (t : Nat) (v1 : Int32) (v2 : Int32) (h : mm_H) {fs : List Value} (hb : h t = some (.inr (12, fs))) : f_Md_isPointed [.ref t, .int v1, .int v2] h =
  mm_run p_Md_isPointed mm_fu 5 [.ref t, .int v1, .int v2, .int 0, .int 0] [] h := (mm_ga_is rfl).trans ((mm_gd_is hb).trans (e_Md_isPointed_0 mm_fu t v1 v2 h))
set_option maxRecDepth 100000 in
theorem e_Md_isPointed_5 (f : Nat) (t : Nat) (v1 : Int32) (v2 : Int32) (v3 : Int32) (v4 : Int32) (h : mm_H) : mm_run p_Md_isPointed (f + 1) 5 [.ref t, .int v1, .int v2, .int v3, .int v4] [] h =
  (mm_gr 12 14 h t).bind fun r1 =>
  (mm_li h r1 (v1 + 4)).bind fun x2 =>
  if v4 < x2 then
    if v3 = 0 then
      (mm_gr 12 14 h t).bind fun r3 =>
      (mm_li h r3 ((v1 + 55) + v4)).bind fun x4 =>
      if x4 = v2 then
        mm_run p_Md_isPointed f 5 [.ref t, .int v1, .int v2, .int 1, .int (v4 + 1)] [] h
      else
        mm_run p_Md_isPointed f 5 [.ref t, .int v1, .int v2, .int 0, .int (v4 + 1)] [] h
    else
      mm_run p_Md_isPointed f 5 [.ref t, .int v1, .int v2, .int 1, .int (v4 + 1)] [] h
  else
    if v3 = 0 ∨ v3 = 1 then some (some (.int v3), h) else none := rfl
set_option maxRecDepth 100000 in
theorem i_Md_isPointed (l : Launch) : mm_Imp l yX12_isPointed cX12_isPointed 5 (some .boolean) 1 f_Md_isPointed := mm_imp l (P := p_Md_isPointed) mm_cls_ok mm_sys_ok (by decide) (mm_Pok_of (List.forall_mem_cons.mpr ⟨k_X12_123, (fun _ h => absurd h List.not_mem_nil)⟩) (fun _ h => absurd h List.not_mem_nil) (fun _ h => absurd h List.not_mem_nil) (fun _ h => absurd h List.not_mem_nil)) (by decide +kernel) rfl (cats := [1, 1, 1]) (fun as h r e => ⟨(mm_ga_inv e).1, (mm_gd_inv (mm_ga_inv e).2).1⟩) rfl (by decide)
theorem v_Md_isPointed (l : Launch) {own : String} {i n0 : Nat} (hl : Cond.methodLink own i yX12_isPointed ∈ mm_tbl) (hn : 2 ≤ n0) : mm_cok l own n0 i (0, 2, 1, f_Md_isPointed) := Or.inr (Or.inr ⟨rfl, yX12_isPointed, cX12_isPointed, 5, (some .boolean), 1, 12, TX12, 27, i_Md_isPointed l, hn, by decide, by decide +kernel, rfl, fun _ _ _ e => (mm_gd_inv (mm_ga_inv e).2).2, hl, q_1785, q_61, q_179, q_1786⟩)
def p_Md_isLimited : mm_P := ([(0, .aload_n 0, 1, 0), (1, .iload_n 1, 1, 0), (2, .iload_n 3, 1, 0), (3, .aload_n 0, 1, 0), (4, .getfield 114, 3, 0), (7, .iload_n 2, 1, 0), (8, .iconst 3, 1, 3), (9, .iadd, 1, 0), (10, .iaload, 1, 0), (11, .invokevirtual 286, 3, 0), (14, .istore 4, 2, 0), (16, .aload_n 0, 1, 0), (17, .getfield 114, 3, 0), (20, .iload_n 2, 1, 0), (21, .iconst 4, 1, 4), (22, .iadd, 1, 0), (23, .iaload, 1, 0), (24, .istore 5, 2, 0), (26, .aload_n 0, 1, 0), (27, .getfield 114, 3, 0), (30, .iload_n 2, 1, 0), (31, .iconst 2, 1, 2), (32, .iadd, 1, 0), (33, .iaload, 1, 0), (34, .tableswitch 130 0 4 #[34, 50, 63, 82, 95], 34, 0), (68, .iload 4, 2, 0), (70, .iload 5, 2, 0), (72, .aload_n 0, 1, 0), (73, .getfield 114, 3, 0), (76, .iload_n 2, 1, 0), (77, .iconst 5, 1, 5), (78, .iadd, 1, 0), (79, .iaload, 1, 0), (80, .invokestatic 275, 3, 0), (83, .ireturn, 1, 0), (84, .iload 4, 2, 0), (86, .iload 5, 2, 0), (88, .if_icmp .ne 7, 3, 0), (91, .iconst 1, 1, 1), (92, .goto 4, 3, 0), (95, .iconst 0, 1, 0), (96, .ireturn, 1, 0), (97, .iload 4, 2, 0), (99, .aload_n 0, 1, 0), (100, .iload_n 1, 1, 0), (101, .iload_n 3, 1, 0), (102, .iload 5, 2, 0), (104, .invokevirtual 286, 3, 0), (107, .if_icmp .le 7, 3, 0), (110, .iconst 1, 1, 1), (111, .goto 4, 3, 0), (114, .iconst 0, 1, 0), (115, .ireturn, 1, 0), (116, .iload_n 3, 1, 0), (117, .iload 5, 2, 0), (119, .irem, 1, 0), (120, .ifCond .ne 7, 3, 0), (123, .iconst 1, 1, 1), (124, .goto 4, 3, 0), (127, .iconst 0, 1, 0), (128, .ireturn, 1, 0), (129, .aload_n 0, 1, 0), (130, .iload_n 1, 1, 0), (131, .aload_n 0, 1, 0), (132, .iload_n 1, 1, 0), (133, .invokevirtual 279, 3, 0), (136, .aload_n 0, 1, 0), (137, .getfield 114, 3, 0), (140, .iload_n 2, 1, 0), (141, .iconst 3, 1, 3), (142, .iadd, 1, 0), (143, .iaload, 1, 0), (144, .iload 4, 2, 0), (146, .invokevirtual 289, 3, 0), (149, .iconst 1, 1, 1), (150, .iload_n 3, 1, 0), (151, .ishl, 1, 0), (152, .iconst (-1), 1, (-1)), (153, .ixor, 1, 0), (154, .iand, 1, 0), (155, .ifCond .eq 7, 3, 0), (158, .iconst 1, 1, 1), (159, .goto 4, 3, 0), (162, .iconst 0, 1, 0), (163, .ireturn, 1, 0), (164, .aload_n 0, 1, 0), (165, .iload_n 1, 1, 0), (166, .aload_n 0, 1, 0), (167, .iload_n 1, 1, 0), (168, .iload_n 3, 1, 0), (169, .iconst 0, 1, 0), (170, .invokevirtual 286, 3, 0), (173, .invokevirtual 293, 3, 0), (176, .ireturn, 1, 0)], [(114, 12, 11, 4)], [(275, 1, 3, 1, f_Md_within), (279, 0, 1, 1, f_Md_visible), (286, 0, 3, 1, f_Md_valueOf), (289, 0, 4, 1, f_Md_having), (293, 0, 2, 1, f_Md_isPointed)], [], [], [(0, [0, 1, 2, 3])], [(34, [(0, 68), (1, 84), (2, 97), (3, 116), (4, 129)], 164)], 1)
def f_Md_isLimited : mm_F := fun args h => mm_ga [1, 1, 1, 1] args (mm_gd 12 args h (mm_run p_Md_isLimited (mm_fu + 1) 0 args [] h))
set_option maxRecDepth 100000 in
theorem e_Md_isLimited_0 (f : Nat) (t : Nat) (v1 : Int32) (v2 : Int32) (v3 : Int32) (h : mm_H) : mm_run p_Md_isLimited (f + 1) 0 [.ref t, .int v1, .int v2, .int v3] [] h =
  (mm_gr 12 11 h t).bind fun r1 =>
  (mm_li h r1 (v2 + 3)).bind fun x2 =>
  mm_ci (f_Md_valueOf [.ref t, .int v1, .int v3, .int x2] h) fun x4 h3 =>
  (mm_gr 12 11 h3 t).bind fun r5 =>
  (mm_li h3 r5 (v2 + 4)).bind fun x6 =>
  (mm_gr 12 11 h3 t).bind fun r7 =>
  (mm_li h3 r7 (v2 + 2)).bind fun x8 =>
  if x8 = 0 then
    (mm_gr 12 11 h3 t).bind fun r9 =>
    (mm_li h3 r9 (v2 + 5)).bind fun x10 =>
    mm_ci (f_Md_within [.int x4, .int x6, .int x10] h3) fun x12 h11 =>
    if x12 = 0 ∨ x12 = 1 then some (some (.int x12), h11) else none
  else if x8 = 1 then
    if x4 = x6 then
      some (some (.int 1), h3)
    else
      some (some (.int 0), h3)
  else if x8 = 2 then
    mm_ci (f_Md_valueOf [.ref t, .int v1, .int v3, .int x6] h3) fun x14 h13 =>
    if x14 < x4 then
      some (some (.int 1), h13)
    else
      some (some (.int 0), h13)
  else if x8 = 3 then
    if x6 = 0 then none else
    if (mm_rem v3 x6) = 0 then
      some (some (.int 1), h3)
    else
      some (some (.int 0), h3)
  else if x8 = 4 then
    mm_ci (f_Md_visible [.ref t, .int v1] h3) fun x16 h15 =>
    (mm_gr 12 11 h15 t).bind fun r17 =>
    (mm_li h15 r17 (v2 + 3)).bind fun x18 =>
    mm_ci (f_Md_having [.ref t, .int v1, .int x16, .int x18, .int x4] h15) fun x20 h19 =>
    if (x20 &&& ((1 <<< (v3 &&& 31)) ^^^ (-1))) = 0 then
      some (some (.int 0), h19)
    else
      some (some (.int 1), h19)
  else 
    mm_ci (f_Md_valueOf [.ref t, .int v1, .int v3, .int 0] h3) fun x22 h21 =>
    mm_ci (f_Md_isPointed [.ref t, .int v1, .int x22] h21) fun x24 h23 =>
    if x24 = 0 ∨ x24 = 1 then some (some (.int x24), h23) else none := rfl
theorem e_Md_isLimited (t : Nat) (v1 : Int32) (v2 : Int32) (v3 : Int32) (h : mm_H) {fs : List Value} (hb : h t = some (.inr (12, fs))) : f_Md_isLimited [.ref t, .int v1, .int v2, .int v3] h =
  (mm_gr 12 11 h t).bind fun r1 =>
  (mm_li h r1 (v2 + 3)).bind fun x2 =>
  mm_ci (f_Md_valueOf [.ref t, .int v1, .int v3, .int x2] h) fun x4 h3 =>
  (mm_gr 12 11 h3 t).bind fun r5 =>
  (mm_li h3 r5 (v2 + 4)).bind fun x6 =>
  (mm_gr 12 11 h3 t).bind fun r7 =>
  (mm_li h3 r7 (v2 + 2)).bind fun x8 =>
  if x8 = 0 then
    (mm_gr 12 11 h3 t).bind fun r9 =>
    (mm_li h3 r9 (v2 + 5)).bind fun x10 =>
    mm_ci (f_Md_within [.int x4, .int x6, .int x10] h3) fun x12 h11 =>
    if x12 = 0 ∨ x12 = 1 then some (some (.int x12), h11) else none
  else if x8 = 1 then
    if x4 = x6 then
      some (some (.int 1), h3)
    else
      some (some (.int 0), h3)
  else if x8 = 2 then
    mm_ci (f_Md_valueOf [.ref t, .int v1, .int v3, .int x6] h3) fun x14 h13 =>
    if x14 < x4 then
      some (some (.int 1), h13)
    else
      some (some (.int 0), h13)
  else if x8 = 3 then
    if x6 = 0 then none else
    if (mm_rem v3 x6) = 0 then
      some (some (.int 1), h3)
    else
      some (some (.int 0), h3)
  else if x8 = 4 then
    mm_ci (f_Md_visible [.ref t, .int v1] h3) fun x16 h15 =>
    (mm_gr 12 11 h15 t).bind fun r17 =>
    (mm_li h15 r17 (v2 + 3)).bind fun x18 =>
    mm_ci (f_Md_having [.ref t, .int v1, .int x16, .int x18, .int x4] h15) fun x20 h19 =>
    if (x20 &&& ((1 <<< (v3 &&& 31)) ^^^ (-1))) = 0 then
      some (some (.int 0), h19)
    else
      some (some (.int 1), h19)
  else 
    mm_ci (f_Md_valueOf [.ref t, .int v1, .int v3, .int 0] h3) fun x22 h21 =>
    mm_ci (f_Md_isPointed [.ref t, .int v1, .int x22] h21) fun x24 h23 =>
    if x24 = 0 ∨ x24 = 1 then some (some (.int x24), h23) else none := (mm_ga_is rfl).trans ((mm_gd_is hb).trans (e_Md_isLimited_0 mm_fu t v1 v2 v3 h))
set_option maxRecDepth 100000 in
theorem i_Md_isLimited (l : Launch) : mm_Imp l yX12_isLimited cX12_isLimited 6 (some .boolean) 4 f_Md_isLimited := mm_imp l (P := p_Md_isLimited) mm_cls_ok mm_sys_ok (by decide) (mm_Pok_of (List.forall_mem_cons.mpr ⟨k_X12_114, (fun _ h => absurd h List.not_mem_nil)⟩) (List.forall_mem_cons.mpr ⟨v_Md_within l (Or.inl q_1769) (by decide), (List.forall_mem_cons.mpr ⟨v_Md_visible l q_1772 (by decide), (List.forall_mem_cons.mpr ⟨v_Md_valueOf l q_1761 (by decide), (List.forall_mem_cons.mpr ⟨v_Md_having l q_1776 (by decide), (List.forall_mem_cons.mpr ⟨v_Md_isPointed l q_1783 (by decide), (fun _ h => absurd h List.not_mem_nil)⟩)⟩)⟩)⟩)⟩) (fun _ h => absurd h List.not_mem_nil) (fun _ h => absurd h List.not_mem_nil)) (by decide +kernel) rfl (cats := [1, 1, 1, 1]) (fun as h r e => ⟨(mm_ga_inv e).1, (mm_gd_inv (mm_ga_inv e).2).1⟩) rfl (by decide)
theorem v_Md_isLimited (l : Launch) {own : String} {i n0 : Nat} (hl : Cond.methodLink own i yX12_isLimited ∈ mm_tbl) (hn : 5 ≤ n0) : mm_cok l own n0 i (0, 3, 1, f_Md_isLimited) := Or.inr (Or.inr ⟨rfl, yX12_isLimited, cX12_isLimited, 6, (some .boolean), 4, 12, TX12, 27, i_Md_isLimited l, hn, by decide, by decide +kernel, rfl, fun _ _ _ e => (mm_gd_inv (mm_ga_inv e).2).2, hl, q_1759, q_57, q_179, q_1760⟩)
def p_Md_isSo : mm_P := ([(0, .bipush 73, 2, 73), (2, .iload_n 2, 1, 0), (3, .imul, 1, 0), (4, .istore 4, 2, 0), (6, .aload_n 0, 1, 0), (7, .getfield 114, 3, 0), (10, .iload 4, 2, 0), (12, .iaload, 1, 0), (13, .istore 5, 2, 0), (15, .iload 5, 2, 0), (17, .ifCond .ne 7, 3, 0), (20, .iconst 1, 1, 1), (21, .goto 4, 3, 0), (24, .iconst 0, 1, 0), (25, .istore 6, 2, 0), (27, .iconst 0, 1, 0), (28, .istore 7, 2, 0), (30, .iload 7, 2, 0), (32, .iload 5, 2, 0), (34, .if_icmp .ge 127, 3, 0), (37, .aload_n 0, 1, 0), (38, .getfield 114, 3, 0), (41, .iload 4, 2, 0), (43, .iconst 1, 1, 1), (44, .iadd, 1, 0), (45, .bipush 6, 2, 6), (47, .iload 7, 2, 0), (49, .imul, 1, 0), (50, .iadd, 1, 0), (51, .iaload, 1, 0), (52, .istore 8, 2, 0), (54, .iconst 1, 1, 1), (55, .istore 9, 2, 0), (57, .iconst 0, 1, 0), (58, .istore 10, 2, 0), (60, .iload 10, 2, 0), (62, .iload 5, 2, 0), (64, .if_icmp .ge 74, 3, 0), (67, .iload 4, 2, 0), (69, .iconst 1, 1, 1), (70, .iadd, 1, 0), (71, .bipush 6, 2, 6), (73, .iload 10, 2, 0), (75, .imul, 1, 0), (76, .iadd, 1, 0), (77, .istore 11, 2, 0), (79, .iload 9, 2, 0), (81, .ifCond .eq 48, 3, 0), (84, .aload_n 0, 1, 0), (85, .getfield 114, 3, 0), (88, .iload 11, 2, 0), (90, .iaload, 1, 0), (91, .iload 8, 2, 0), (93, .if_icmp .ne 32, 3, 0), (96, .aload_n 0, 1, 0), (97, .iload_n 1, 1, 0), (98, .iload 11, 2, 0), (100, .iload_n 3, 1, 0), (101, .invokevirtual 296, 3, 0), (104, .aload_n 0, 1, 0), (105, .getfield 114, 3, 0), (108, .iload 11, 2, 0), (110, .iconst 1, 1, 1), (111, .iadd, 1, 0), (112, .iaload, 1, 0), (113, .iconst 1, 1, 1), (114, .if_icmp .ne 7, 3, 0), (117, .iconst 1, 1, 1), (118, .goto 4, 3, 0), (121, .iconst 0, 1, 0), (122, .if_icmp .eq 7, 3, 0), (125, .iconst 1, 1, 1), (126, .goto 4, 3, 0), (129, .iconst 0, 1, 0), (130, .istore 9, 2, 0), (132, .iinc 10 1, 3, 1), (135, .goto (-75), 3, 0), (138, .iload 6, 2, 0), (140, .ifCond .ne 8, 3, 0), (143, .iload 9, 2, 0), (145, .ifCond .eq 7, 3, 0), (148, .iconst 1, 1, 1), (149, .goto 4, 3, 0), (152, .iconst 0, 1, 0), (153, .istore 6, 2, 0), (155, .iinc 7 1, 3, 1), (158, .goto (-128), 3, 0), (161, .iload 6, 2, 0), (163, .ireturn, 1, 0)], [(114, 12, 11, 4)], [(296, 0, 3, 1, f_Md_isLimited)], [], [], [(0, [0, 1, 2, 3]), (30, [0, 1, 3, 4, 5, 6, 7]), (60, [0, 1, 3, 4, 5, 6, 7, 8, 9, 10])], [], 1)
def f_Md_isSo : mm_F := fun args h => mm_ga [1, 1, 1, 1] args (mm_gd 12 args h (mm_run p_Md_isSo (mm_fu + 1) 0 args [] h))
set_option maxRecDepth 100000 in
theorem e_Md_isSo_0 (f : Nat) (t : Nat) (v1 : Int32) (v2 : Int32) (v3 : Int32) (h : mm_H) : mm_run p_Md_isSo (f + 1) 0 [.ref t, .int v1, .int v2, .int v3] [] h =
  (mm_gr 12 11 h t).bind fun r1 =>
  (mm_li h r1 (73 * v2)).bind fun x2 =>
  if x2 = 0 then
    mm_run p_Md_isSo f 30 [.ref t, .int v1, .int v3, .int (73 * v2), .int x2, .int 1, .int 0] [] h
  else
    mm_run p_Md_isSo f 30 [.ref t, .int v1, .int v3, .int (73 * v2), .int x2, .int 0, .int 0] [] h := rfl
theorem e_Md_isSo (t : Nat) (v1 : Int32) (v2 : Int32) (v3 : Int32) (h : mm_H) {fs : List Value} (hb : h t = some (.inr (12, fs))) : f_Md_isSo [.ref t, .int v1, .int v2, .int v3] h =
  (mm_gr 12 11 h t).bind fun r1 =>
  (mm_li h r1 (73 * v2)).bind fun x2 =>
  if x2 = 0 then
    mm_run p_Md_isSo mm_fu 30 [.ref t, .int v1, .int v3, .int (73 * v2), .int x2, .int 1, .int 0] [] h
  else
    mm_run p_Md_isSo mm_fu 30 [.ref t, .int v1, .int v3, .int (73 * v2), .int x2, .int 0, .int 0] [] h := (mm_ga_is rfl).trans ((mm_gd_is hb).trans (e_Md_isSo_0 mm_fu t v1 v2 v3 h))
set_option maxRecDepth 100000 in
theorem e_Md_isSo_30 (f : Nat) (t : Nat) (v1 : Int32) (v3 : Int32) (v4 : Int32) (v5 : Int32) (v6 : Int32) (v7 : Int32) (h : mm_H) : mm_run p_Md_isSo (f + 1) 30 [.ref t, .int v1, .int v3, .int v4, .int v5, .int v6, .int v7] [] h =
  if v7 < v5 then
    (mm_gr 12 11 h t).bind fun r1 =>
    (mm_li h r1 ((v4 + 1) + (6 * v7))).bind fun x2 =>
    mm_run p_Md_isSo f 60 [.ref t, .int v1, .int v3, .int v4, .int v5, .int v6, .int v7, .int x2, .int 1, .int 0] [] h
  else
    if v6 = 0 ∨ v6 = 1 then some (some (.int v6), h) else none := rfl
set_option maxRecDepth 100000 in
theorem e_Md_isSo_60 (f : Nat) (t : Nat) (v1 : Int32) (v3 : Int32) (v4 : Int32) (v5 : Int32) (v6 : Int32) (v7 : Int32) (v8 : Int32) (v9 : Int32) (v10 : Int32) (h : mm_H) : mm_run p_Md_isSo (f + 1) 60 [.ref t, .int v1, .int v3, .int v4, .int v5, .int v6, .int v7, .int v8, .int v9, .int v10] [] h =
  if v10 < v5 then
    if v9 = 0 then
      mm_run p_Md_isSo f 60 [.ref t, .int v1, .int v3, .int v4, .int v5, .int v6, .int v7, .int v8, .int 0, .int (v10 + 1)] [] h
    else
      (mm_gr 12 11 h t).bind fun r1 =>
      (mm_li h r1 ((v4 + 1) + (6 * v10))).bind fun x2 =>
      if x2 = v8 then
        mm_ci (f_Md_isLimited [.ref t, .int v1, .int ((v4 + 1) + (6 * v10)), .int v3] h) fun x4 h3 =>
        (mm_gr 12 11 h3 t).bind fun r5 =>
        (mm_li h3 r5 (((v4 + 1) + (6 * v10)) + 1)).bind fun x6 =>
        if x6 = 1 then
          if x4 = 1 then
            mm_run p_Md_isSo f 60 [.ref t, .int v1, .int v3, .int v4, .int v5, .int v6, .int v7, .int v8, .int 0, .int (v10 + 1)] [] h3
          else
            mm_run p_Md_isSo f 60 [.ref t, .int v1, .int v3, .int v4, .int v5, .int v6, .int v7, .int v8, .int 1, .int (v10 + 1)] [] h3
        else
          if x4 = 0 then
            mm_run p_Md_isSo f 60 [.ref t, .int v1, .int v3, .int v4, .int v5, .int v6, .int v7, .int v8, .int 0, .int (v10 + 1)] [] h3
          else
            mm_run p_Md_isSo f 60 [.ref t, .int v1, .int v3, .int v4, .int v5, .int v6, .int v7, .int v8, .int 1, .int (v10 + 1)] [] h3
      else
        mm_run p_Md_isSo f 60 [.ref t, .int v1, .int v3, .int v4, .int v5, .int v6, .int v7, .int v8, .int 1, .int (v10 + 1)] [] h
  else
    if v6 = 0 then
      if v9 = 0 then
        mm_run p_Md_isSo f 30 [.ref t, .int v1, .int v3, .int v4, .int v5, .int 0, .int (v7 + 1)] [] h
      else
        mm_run p_Md_isSo f 30 [.ref t, .int v1, .int v3, .int v4, .int v5, .int 1, .int (v7 + 1)] [] h
    else
      mm_run p_Md_isSo f 30 [.ref t, .int v1, .int v3, .int v4, .int v5, .int 1, .int (v7 + 1)] [] h := rfl
set_option maxRecDepth 100000 in
theorem i_Md_isSo (l : Launch) : mm_Imp l yX12_isSo cX12_isSo 12 (some .boolean) 5 f_Md_isSo := mm_imp l (P := p_Md_isSo) mm_cls_ok mm_sys_ok (by decide) (mm_Pok_of (List.forall_mem_cons.mpr ⟨k_X12_114, (fun _ h => absurd h List.not_mem_nil)⟩) (List.forall_mem_cons.mpr ⟨v_Md_isLimited l q_1757 (by decide), (fun _ h => absurd h List.not_mem_nil)⟩) (fun _ h => absurd h List.not_mem_nil) (fun _ h => absurd h List.not_mem_nil)) (by decide +kernel) rfl (cats := [1, 1, 1, 1]) (fun as h r e => ⟨(mm_ga_inv e).1, (mm_gd_inv (mm_ga_inv e).2).1⟩) rfl (by decide)
theorem v_Md_isSo (l : Launch) {own : String} {i n0 : Nat} (hl : Cond.methodLink own i yX12_isSo ∈ mm_tbl) (hn : 6 ≤ n0) : mm_cok l own n0 i (0, 3, 1, f_Md_isSo) := Or.inr (Or.inr ⟨rfl, yX12_isSo, cX12_isSo, 12, (some .boolean), 5, 12, TX12, 27, i_Md_isSo l, hn, by decide, by decide +kernel, rfl, fun _ _ _ e => (mm_gd_inv (mm_ga_inv e).2).2, hl, q_1755, q_56, q_179, q_1756⟩)
def p_Md_belongs : mm_P := ([(0, .aload_n 0, 1, 0), (1, .iload_n 2, 1, 0), (2, .invokevirtual 299, 3, 0), (5, .iconst 3, 1, 3), (6, .if_icmp .ne 13, 3, 0), (9, .aload_n 0, 1, 0), (10, .iload_n 1, 1, 0), (11, .iconst 1, 1, 1), (12, .iload_n 3, 1, 0), (13, .invokevirtual 302, 3, 0), (16, .ifCond .eq 7, 3, 0), (19, .iconst 1, 1, 1), (20, .goto 4, 3, 0), (23, .iconst 0, 1, 0), (24, .ireturn, 1, 0)], [], [(299, 0, 1, 1, f_Md_kindOf), (302, 0, 3, 1, f_Md_isSo)], [], [], [(0, [0, 1, 2, 3])], [], 1)
def f_Md_belongs : mm_F := fun args h => mm_ga [1, 1, 1, 1] args (mm_gd 12 args h (mm_run p_Md_belongs (mm_fu + 1) 0 args [] h))
set_option maxRecDepth 100000 in
theorem e_Md_belongs_0 (f : Nat) (t : Nat) (v1 : Int32) (v2 : Int32) (v3 : Int32) (h : mm_H) : mm_run p_Md_belongs (f + 1) 0 [.ref t, .int v1, .int v2, .int v3] [] h =
  mm_ci (f_Md_kindOf [.ref t, .int v2] h) fun x2 h1 =>
  if x2 = 3 then
    mm_ci (f_Md_isSo [.ref t, .int v1, .int 1, .int v3] h1) fun x4 h3 =>
    if x4 = 0 then
      some (some (.int 0), h3)
    else
      some (some (.int 1), h3)
  else
    some (some (.int 1), h1) := rfl
theorem e_Md_belongs (t : Nat) (v1 : Int32) (v2 : Int32) (v3 : Int32) (h : mm_H) {fs : List Value} (hb : h t = some (.inr (12, fs))) : f_Md_belongs [.ref t, .int v1, .int v2, .int v3] h =
  mm_ci (f_Md_kindOf [.ref t, .int v2] h) fun x2 h1 =>
  if x2 = 3 then
    mm_ci (f_Md_isSo [.ref t, .int v1, .int 1, .int v3] h1) fun x4 h3 =>
    if x4 = 0 then
      some (some (.int 0), h3)
    else
      some (some (.int 1), h3)
  else
    some (some (.int 1), h1) := (mm_ga_is rfl).trans ((mm_gd_is hb).trans (e_Md_belongs_0 mm_fu t v1 v2 v3 h))
set_option maxRecDepth 100000 in
theorem i_Md_belongs (l : Launch) : mm_Imp l yX12_belongs cX12_belongs 4 (some .boolean) 6 f_Md_belongs := mm_imp l (P := p_Md_belongs) mm_cls_ok mm_sys_ok (by decide) (mm_Pok_of (fun _ h => absurd h List.not_mem_nil) (List.forall_mem_cons.mpr ⟨v_Md_kindOf l q_1749 (by decide), (List.forall_mem_cons.mpr ⟨v_Md_isSo l q_1753 (by decide), (fun _ h => absurd h List.not_mem_nil)⟩)⟩) (fun _ h => absurd h List.not_mem_nil) (fun _ h => absurd h List.not_mem_nil)) (by decide +kernel) rfl (cats := [1, 1, 1, 1]) (fun as h r e => ⟨(mm_ga_inv e).1, (mm_gd_inv (mm_ga_inv e).2).1⟩) rfl (by decide)
theorem v_Md_belongs (l : Launch) {own : String} {i n0 : Nat} (hl : Cond.methodLink own i yX12_belongs ∈ mm_tbl) (hn : 7 ≤ n0) : mm_cok l own n0 i (0, 3, 1, f_Md_belongs) := Or.inr (Or.inr ⟨rfl, yX12_belongs, cX12_belongs, 4, (some .boolean), 6, 12, TX12, 27, i_Md_belongs l, hn, by decide, by decide +kernel, rfl, fun _ _ _ e => (mm_gd_inv (mm_ga_inv e).2).2, hl, q_1747, q_54, q_179, q_1748⟩)
def p_Md_columnAt : mm_P := ([(0, .aload_n 0, 1, 0), (1, .getfield 111, 3, 0), (4, .bipush 13, 2, 13), (6, .iload_n 1, 1, 0), (7, .iadd, 1, 0), (8, .iaload, 1, 0), (9, .ireturn, 1, 0)], [(111, 12, 10, 4)], [], [], [], [(0, [0, 1])], [], 2)
def f_Md_columnAt : mm_F := fun args h => mm_ga [1, 1] args (mm_gd 12 args h (mm_run p_Md_columnAt (mm_fu + 1) 0 args [] h))
set_option maxRecDepth 100000 in
theorem e_Md_columnAt_0 (f : Nat) (t : Nat) (v1 : Int32) (h : mm_H) : mm_run p_Md_columnAt (f + 1) 0 [.ref t, .int v1] [] h =
  (mm_gr 12 10 h t).bind fun r1 =>
  (mm_li h r1 (13 + v1)).bind fun x2 =>
  some (some (.int x2), h) := rfl
theorem e_Md_columnAt (t : Nat) (v1 : Int32) (h : mm_H) {fs : List Value} (hb : h t = some (.inr (12, fs))) : f_Md_columnAt [.ref t, .int v1] h =
  (mm_gr 12 10 h t).bind fun r1 =>
  (mm_li h r1 (13 + v1)).bind fun x2 =>
  some (some (.int x2), h) := (mm_ga_is rfl).trans ((mm_gd_is hb).trans (e_Md_columnAt_0 mm_fu t v1 h))
set_option maxRecDepth 100000 in
theorem i_Md_columnAt (l : Launch) : mm_Imp l yX12_columnAt cX12_columnAt 2 (some .int) 1 f_Md_columnAt := mm_imp l (P := p_Md_columnAt) mm_cls_ok mm_sys_ok (by decide) (mm_Pok_of (List.forall_mem_cons.mpr ⟨k_X12_111, (fun _ h => absurd h List.not_mem_nil)⟩) (fun _ h => absurd h List.not_mem_nil) (fun _ h => absurd h List.not_mem_nil) (fun _ h => absurd h List.not_mem_nil)) (by decide +kernel) rfl (cats := [1, 1]) (fun as h r e => ⟨(mm_ga_inv e).1, (mm_gd_inv (mm_ga_inv e).2).1⟩) rfl (by decide)
theorem v_Md_columnAt (l : Launch) {own : String} {i n0 : Nat} (hl : Cond.methodLink own i yX12_columnAt ∈ mm_tbl) (hn : 2 ≤ n0) : mm_cok l own n0 i (0, 1, 1, f_Md_columnAt) := Or.inr (Or.inr ⟨rfl, yX12_columnAt, cX12_columnAt, 2, (some .int), 1, 12, TX12, 27, i_Md_columnAt l, hn, by decide, by decide +kernel, rfl, fun _ _ _ e => (mm_gd_inv (mm_ga_inv e).2).2, hl, q_1789, q_62, q_179, q_1790⟩)
def p_Md_entryOf : mm_P := ([(0, .bipush 32, 2, 32), (2, .aload_n 0, 1, 0), (3, .iload_n 1, 1, 0), (4, .invokevirtual 299, 3, 0), (7, .iconst 1, 1, 1), (8, .if_icmp .ne 11, 3, 0), (11, .sipush 999, 3, 999), (14, .iload_n 3, 1, 0), (15, .isub, 1, 0), (16, .goto 4, 3, 0), (19, .iload_n 3, 1, 0), (20, .imul, 1, 0), (21, .iload_n 2, 1, 0), (22, .iadd, 1, 0), (23, .ireturn, 1, 0)], [], [(299, 0, 1, 1, f_Md_kindOf)], [], [], [(0, [0, 1, 2, 3])], [], 2)
def f_Md_entryOf : mm_F := fun args h => mm_ga [1, 1, 1, 1] args (mm_gd 12 args h (mm_run p_Md_entryOf (mm_fu + 1) 0 args [] h))
set_option maxRecDepth 100000 in
theorem e_Md_entryOf_0 (f : Nat) (t : Nat) (v1 : Int32) (v2 : Int32) (v3 : Int32) (h : mm_H) : mm_run p_Md_entryOf (f + 1) 0 [.ref t, .int v1, .int v2, .int v3] [] h =
  mm_ci (f_Md_kindOf [.ref t, .int v1] h) fun x2 h1 =>
  if x2 = 1 then
    some (some (.int ((32 * (999 - v3)) + v2)), h1)
  else
    some (some (.int ((32 * v3) + v2)), h1) := rfl
theorem e_Md_entryOf (t : Nat) (v1 : Int32) (v2 : Int32) (v3 : Int32) (h : mm_H) {fs : List Value} (hb : h t = some (.inr (12, fs))) : f_Md_entryOf [.ref t, .int v1, .int v2, .int v3] h =
  mm_ci (f_Md_kindOf [.ref t, .int v1] h) fun x2 h1 =>
  if x2 = 1 then
    some (some (.int ((32 * (999 - v3)) + v2)), h1)
  else
    some (some (.int ((32 * v3) + v2)), h1) := (mm_ga_is rfl).trans ((mm_gd_is hb).trans (e_Md_entryOf_0 mm_fu t v1 v2 v3 h))
set_option maxRecDepth 100000 in
theorem i_Md_entryOf (l : Launch) : mm_Imp l yX12_entryOf cX12_entryOf 4 (some .int) 2 f_Md_entryOf := mm_imp l (P := p_Md_entryOf) mm_cls_ok mm_sys_ok (by decide) (mm_Pok_of (fun _ h => absurd h List.not_mem_nil) (List.forall_mem_cons.mpr ⟨v_Md_kindOf l q_1749 (by decide), (fun _ h => absurd h List.not_mem_nil)⟩) (fun _ h => absurd h List.not_mem_nil) (fun _ h => absurd h List.not_mem_nil)) (by decide +kernel) rfl (cats := [1, 1, 1, 1]) (fun as h r e => ⟨(mm_ga_inv e).1, (mm_gd_inv (mm_ga_inv e).2).1⟩) rfl (by decide)
theorem v_Md_entryOf (l : Launch) {own : String} {i n0 : Nat} (hl : Cond.methodLink own i yX12_entryOf ∈ mm_tbl) (hn : 3 ≤ n0) : mm_cok l own n0 i (0, 3, 1, f_Md_entryOf) := Or.inr (Or.inr ⟨rfl, yX12_entryOf, cX12_entryOf, 4, (some .int), 2, 12, TX12, 27, i_Md_entryOf l, hn, by decide, by decide +kernel, rfl, fun _ _ _ e => (mm_gd_inv (mm_ga_inv e).2).2, hl, q_1793, q_63, q_179, q_1794⟩)
def p_Md_startOf : mm_P := ([(0, .iload_n 1, 1, 0), (1, .sipush 359, 3, 359), (4, .iadd, 1, 0), (5, .bipush 31, 2, 31), (7, .iload_n 2, 1, 0), (8, .imul, 1, 0), (9, .iadd, 1, 0), (10, .ireturn, 1, 0)], [], [], [], [], [(0, [0, 1, 2])], [], 2)
def f_Md_startOf : mm_F := fun args h => mm_ga [1, 1, 1] args (mm_gd 12 args h (mm_run p_Md_startOf (mm_fu + 1) 0 args [] h))
set_option maxRecDepth 100000 in
theorem e_Md_startOf_0 (f : Nat) (t : Nat) (v1 : Int32) (v2 : Int32) (h : mm_H) : mm_run p_Md_startOf (f + 1) 0 [.ref t, .int v1, .int v2] [] h =
  some (some (.int ((v1 + 359) + (31 * v2))), h) := rfl
theorem e_Md_startOf (t : Nat) (v1 : Int32) (v2 : Int32) (h : mm_H) {fs : List Value} (hb : h t = some (.inr (12, fs))) : f_Md_startOf [.ref t, .int v1, .int v2] h =
  some (some (.int ((v1 + 359) + (31 * v2))), h) := (mm_ga_is rfl).trans ((mm_gd_is hb).trans (e_Md_startOf_0 mm_fu t v1 v2 h))
set_option maxRecDepth 100000 in
theorem i_Md_startOf (l : Launch) : mm_Imp l yX12_startOf cX12_startOf 3 (some .int) 1 f_Md_startOf := mm_imp l (P := p_Md_startOf) mm_cls_ok mm_sys_ok (by decide) (mm_Pok_of (fun _ h => absurd h List.not_mem_nil) (fun _ h => absurd h List.not_mem_nil) (fun _ h => absurd h List.not_mem_nil) (fun _ h => absurd h List.not_mem_nil)) (by decide +kernel) rfl (cats := [1, 1, 1]) (fun as h r e => ⟨(mm_ga_inv e).1, (mm_gd_inv (mm_ga_inv e).2).1⟩) rfl (by decide)
theorem v_Md_startOf (l : Launch) {own : String} {i n0 : Nat} (hl : Cond.methodLink own i yX12_startOf ∈ mm_tbl) (hn : 2 ≤ n0) : mm_cok l own n0 i (0, 2, 1, f_Md_startOf) := Or.inr (Or.inr ⟨rfl, yX12_startOf, cX12_startOf, 3, (some .int), 1, 12, TX12, 27, i_Md_startOf l, hn, by decide, by decide +kernel, rfl, fun _ _ _ e => (mm_gd_inv (mm_ga_inv e).2).2, hl, q_1813, q_68, q_179, q_1814⟩)
def p_Md_entries : mm_P := ([(0, .aload_n 0, 1, 0), (1, .getfield 123, 3, 0), (4, .aload_n 0, 1, 0), (5, .iload_n 1, 1, 0), (6, .iload_n 2, 1, 0), (7, .invokevirtual 305, 3, 0), (10, .iaload, 1, 0), (11, .ireturn, 1, 0)], [(123, 12, 14, 4)], [(305, 0, 2, 1, f_Md_startOf)], [], [], [(0, [0, 1, 2])], [], 2)
def f_Md_entries : mm_F := fun args h => mm_ga [1, 1, 1] args (mm_gd 12 args h (mm_run p_Md_entries (mm_fu + 1) 0 args [] h))
set_option maxRecDepth 100000 in
theorem e_Md_entries_0 (f : Nat) (t : Nat) (v1 : Int32) (v2 : Int32) (h : mm_H) : mm_run p_Md_entries (f + 1) 0 [.ref t, .int v1, .int v2] [] h =
  (mm_gr 12 14 h t).bind fun r1 =>
  mm_ci (f_Md_startOf [.ref t, .int v1, .int v2] h) fun x3 h2 =>
  (mm_li h2 r1 x3).bind fun x4 =>
  some (some (.int x4), h2) := rfl
theorem e_Md_entries (t : Nat) (v1 : Int32) (v2 : Int32) (h : mm_H) {fs : List Value} (hb : h t = some (.inr (12, fs))) : f_Md_entries [.ref t, .int v1, .int v2] h =
  (mm_gr 12 14 h t).bind fun r1 =>
  mm_ci (f_Md_startOf [.ref t, .int v1, .int v2] h) fun x3 h2 =>
  (mm_li h2 r1 x3).bind fun x4 =>
  some (some (.int x4), h2) := (mm_ga_is rfl).trans ((mm_gd_is hb).trans (e_Md_entries_0 mm_fu t v1 v2 h))
set_option maxRecDepth 100000 in
theorem i_Md_entries (l : Launch) : mm_Imp l yX12_entries cX12_entries 3 (some .int) 2 f_Md_entries := mm_imp l (P := p_Md_entries) mm_cls_ok mm_sys_ok (by decide) (mm_Pok_of (List.forall_mem_cons.mpr ⟨k_X12_123, (fun _ h => absurd h List.not_mem_nil)⟩) (List.forall_mem_cons.mpr ⟨v_Md_startOf l q_1811 (by decide), (fun _ h => absurd h List.not_mem_nil)⟩) (fun _ h => absurd h List.not_mem_nil) (fun _ h => absurd h List.not_mem_nil)) (by decide +kernel) rfl (cats := [1, 1, 1]) (fun as h r e => ⟨(mm_ga_inv e).1, (mm_gd_inv (mm_ga_inv e).2).1⟩) rfl (by decide)
theorem v_Md_entries (l : Launch) {own : String} {i n0 : Nat} (hl : Cond.methodLink own i yX12_entries ∈ mm_tbl) (hn : 3 ≤ n0) : mm_cok l own n0 i (0, 2, 1, f_Md_entries) := Or.inr (Or.inr ⟨rfl, yX12_entries, cX12_entries, 3, (some .int), 2, 12, TX12, 27, i_Md_entries l, hn, by decide, by decide +kernel, rfl, fun _ _ _ e => (mm_gd_inv (mm_ga_inv e).2).2, hl, q_1809, q_67, q_179, q_1810⟩)
def p_Md_isFirst : mm_P := ([(0, .aload_n 0, 1, 0), (1, .getfield 123, 3, 0), (4, .aload_n 0, 1, 0), (5, .iload_n 1, 1, 0), (6, .iload_n 2, 1, 0), (7, .invokevirtual 305, 3, 0), (10, .iconst 1, 1, 1), (11, .iadd, 1, 0), (12, .iload_n 3, 1, 0), (13, .iadd, 1, 0), (14, .iaload, 1, 0), (15, .iconst 2, 1, 2), (16, .irem, 1, 0), (17, .iconst 1, 1, 1), (18, .if_icmp .ne 7, 3, 0), (21, .iconst 1, 1, 1), (22, .goto 4, 3, 0), (25, .iconst 0, 1, 0), (26, .ireturn, 1, 0)], [(123, 12, 14, 4)], [(305, 0, 2, 1, f_Md_startOf)], [], [], [(0, [0, 1, 2, 3])], [], 1)
def f_Md_isFirst : mm_F := fun args h => mm_ga [1, 1, 1, 1] args (mm_gd 12 args h (mm_run p_Md_isFirst (mm_fu + 1) 0 args [] h))
set_option maxRecDepth 100000 in
theorem e_Md_isFirst_0 (f : Nat) (t : Nat) (v1 : Int32) (v2 : Int32) (v3 : Int32) (h : mm_H) : mm_run p_Md_isFirst (f + 1) 0 [.ref t, .int v1, .int v2, .int v3] [] h =
  (mm_gr 12 14 h t).bind fun r1 =>
  mm_ci (f_Md_startOf [.ref t, .int v1, .int v2] h) fun x3 h2 =>
  (mm_li h2 r1 ((x3 + 1) + v3)).bind fun x4 =>
  if (mm_rem x4 2) = 1 then
    some (some (.int 1), h2)
  else
    some (some (.int 0), h2) := rfl
theorem e_Md_isFirst (t : Nat) (v1 : Int32) (v2 : Int32) (v3 : Int32) (h : mm_H) {fs : List Value} (hb : h t = some (.inr (12, fs))) : f_Md_isFirst [.ref t, .int v1, .int v2, .int v3] h =
  (mm_gr 12 14 h t).bind fun r1 =>
  mm_ci (f_Md_startOf [.ref t, .int v1, .int v2] h) fun x3 h2 =>
  (mm_li h2 r1 ((x3 + 1) + v3)).bind fun x4 =>
  if (mm_rem x4 2) = 1 then
    some (some (.int 1), h2)
  else
    some (some (.int 0), h2) := (mm_ga_is rfl).trans ((mm_gd_is hb).trans (e_Md_isFirst_0 mm_fu t v1 v2 v3 h))
set_option maxRecDepth 100000 in
theorem i_Md_isFirst (l : Launch) : mm_Imp l yX12_isFirst cX12_isFirst 4 (some .boolean) 2 f_Md_isFirst := mm_imp l (P := p_Md_isFirst) mm_cls_ok mm_sys_ok (by decide) (mm_Pok_of (List.forall_mem_cons.mpr ⟨k_X12_123, (fun _ h => absurd h List.not_mem_nil)⟩) (List.forall_mem_cons.mpr ⟨v_Md_startOf l q_1811 (by decide), (fun _ h => absurd h List.not_mem_nil)⟩) (fun _ h => absurd h List.not_mem_nil) (fun _ h => absurd h List.not_mem_nil)) (by decide +kernel) rfl (cats := [1, 1, 1, 1]) (fun as h r e => ⟨(mm_ga_inv e).1, (mm_gd_inv (mm_ga_inv e).2).1⟩) rfl (by decide)
theorem v_Md_isFirst (l : Launch) {own : String} {i n0 : Nat} (hl : Cond.methodLink own i yX12_isFirst ∈ mm_tbl) (hn : 3 ≤ n0) : mm_cok l own n0 i (0, 3, 1, f_Md_isFirst) := Or.inr (Or.inr ⟨rfl, yX12_isFirst, cX12_isFirst, 4, (some .boolean), 2, 12, TX12, 27, i_Md_isFirst l, hn, by decide, by decide +kernel, rfl, fun _ _ _ e => (mm_gd_inv (mm_ga_inv e).2).2, hl, q_1817, q_69, q_179, q_1818⟩)
def p_Md_leaves : mm_P := ([(0, .iconst 0, 1, 0), (1, .istore_n 3, 1, 0), (2, .iconst 0, 1, 0), (3, .istore 4, 2, 0), (5, .iload 4, 2, 0), (7, .aload_n 0, 1, 0), (8, .iload_n 1, 1, 0), (9, .iload_n 2, 1, 0), (10, .invokevirtual 311, 3, 0), (13, .if_icmp .ge 28, 3, 0), (16, .iload_n 3, 1, 0), (17, .aload_n 0, 1, 0), (18, .iload_n 1, 1, 0), (19, .iload_n 2, 1, 0), (20, .iload 4, 2, 0), (22, .invokevirtual 314, 3, 0), (25, .ifCond .eq 7, 3, 0), (28, .iconst 1, 1, 1), (29, .goto 4, 3, 0), (32, .iconst 0, 1, 0), (33, .iadd, 1, 0), (34, .istore_n 3, 1, 0), (35, .iinc 4 1, 3, 1), (38, .goto (-33), 3, 0), (41, .iload_n 3, 1, 0), (42, .ireturn, 1, 0)], [], [(311, 0, 2, 1, f_Md_entries), (314, 0, 3, 1, f_Md_isFirst)], [], [], [(0, [0, 1, 2]), (5, [0, 1, 2, 3, 4])], [], 2)
def f_Md_leaves : mm_F := fun args h => mm_ga [1, 1, 1] args (mm_gd 12 args h (mm_run p_Md_leaves (mm_fu + 1) 0 args [] h))
set_option maxRecDepth 100000 in
theorem e_Md_leaves_0 (f : Nat) (t : Nat) (v1 : Int32) (v2 : Int32) (h : mm_H) : mm_run p_Md_leaves (f + 1) 0 [.ref t, .int v1, .int v2] [] h =
  mm_run p_Md_leaves f 5 [.ref t, .int v1, .int v2, .int 0, .int 0] [] h := rfl
theorem e_Md_leaves (t : Nat) (v1 : Int32) (v2 : Int32) (h : mm_H) {fs : List Value} (hb : h t = some (.inr (12, fs))) : f_Md_leaves [.ref t, .int v1, .int v2] h =
  mm_run p_Md_leaves mm_fu 5 [.ref t, .int v1, .int v2, .int 0, .int 0] [] h := (mm_ga_is rfl).trans ((mm_gd_is hb).trans (e_Md_leaves_0 mm_fu t v1 v2 h))
set_option maxRecDepth 100000 in
theorem e_Md_leaves_5 (f : Nat) (t : Nat) (v1 : Int32) (v2 : Int32) (v3 : Int32) (v4 : Int32) (h : mm_H) : mm_run p_Md_leaves (f + 1) 5 [.ref t, .int v1, .int v2, .int v3, .int v4] [] h =
  mm_ci (f_Md_entries [.ref t, .int v1, .int v2] h) fun x2 h1 =>
  if v4 < x2 then
    mm_ci (f_Md_isFirst [.ref t, .int v1, .int v2, .int v4] h1) fun x4 h3 =>
    if x4 = 0 then
      mm_run p_Md_leaves f 5 [.ref t, .int v1, .int v2, .int (v3 + 0), .int (v4 + 1)] [] h3
    else
      mm_run p_Md_leaves f 5 [.ref t, .int v1, .int v2, .int (v3 + 1), .int (v4 + 1)] [] h3
  else
    some (some (.int v3), h1) := rfl
set_option maxRecDepth 100000 in
theorem i_Md_leaves (l : Launch) : mm_Imp l yX12_leaves cX12_leaves 5 (some .int) 3 f_Md_leaves := mm_imp l (P := p_Md_leaves) mm_cls_ok mm_sys_ok (by decide) (mm_Pok_of (fun _ h => absurd h List.not_mem_nil) (List.forall_mem_cons.mpr ⟨v_Md_entries l q_1807 (by decide), (List.forall_mem_cons.mpr ⟨v_Md_isFirst l q_1815 (by decide), (fun _ h => absurd h List.not_mem_nil)⟩)⟩) (fun _ h => absurd h List.not_mem_nil) (fun _ h => absurd h List.not_mem_nil)) (by decide +kernel) rfl (cats := [1, 1, 1]) (fun as h r e => ⟨(mm_ga_inv e).1, (mm_gd_inv (mm_ga_inv e).2).1⟩) rfl (by decide)
theorem v_Md_leaves (l : Launch) {own : String} {i n0 : Nat} (hl : Cond.methodLink own i yX12_leaves ∈ mm_tbl) (hn : 4 ≤ n0) : mm_cok l own n0 i (0, 2, 1, f_Md_leaves) := Or.inr (Or.inr ⟨rfl, yX12_leaves, cX12_leaves, 5, (some .int), 3, 12, TX12, 27, i_Md_leaves l, hn, by decide, by decide +kernel, rfl, fun _ _ _ e => (mm_gd_inv (mm_ga_inv e).2).2, hl, q_1805, q_66, q_179, q_1806⟩)
def p_Md_page : mm_P := ([(0, .aload_n 0, 1, 0), (1, .getfield 111, 3, 0), (4, .iconst 0, 1, 0), (5, .iaload, 1, 0), (6, .ireturn, 1, 0)], [(111, 12, 10, 4)], [], [], [], [(0, [0])], [], 2)
def f_Md_page : mm_F := fun args h => mm_ga [1] args (mm_gd 12 args h (mm_run p_Md_page (mm_fu + 1) 0 args [] h))
set_option maxRecDepth 100000 in
theorem e_Md_page_0 (f : Nat) (t : Nat) (h : mm_H) : mm_run p_Md_page (f + 1) 0 [.ref t] [] h =
  (mm_gr 12 10 h t).bind fun r1 =>
  (mm_li h r1 0).bind fun x2 =>
  some (some (.int x2), h) := rfl
theorem e_Md_page (t : Nat) (h : mm_H) {fs : List Value} (hb : h t = some (.inr (12, fs))) : f_Md_page [.ref t] h =
  (mm_gr 12 10 h t).bind fun r1 =>
  (mm_li h r1 0).bind fun x2 =>
  some (some (.int x2), h) := (mm_ga_is rfl).trans ((mm_gd_is hb).trans (e_Md_page_0 mm_fu t h))
set_option maxRecDepth 100000 in
theorem i_Md_page (l : Launch) : mm_Imp l yX12_page cX12_page 1 (some .int) 1 f_Md_page := mm_imp l (P := p_Md_page) mm_cls_ok mm_sys_ok (by decide) (mm_Pok_of (List.forall_mem_cons.mpr ⟨k_X12_111, (fun _ h => absurd h List.not_mem_nil)⟩) (fun _ h => absurd h List.not_mem_nil) (fun _ h => absurd h List.not_mem_nil) (fun _ h => absurd h List.not_mem_nil)) (by decide +kernel) rfl (cats := [1]) (fun as h r e => ⟨(mm_ga_inv e).1, (mm_gd_inv (mm_ga_inv e).2).1⟩) rfl (by decide)
theorem v_Md_page (l : Launch) {own : String} {i n0 : Nat} (hl : Cond.methodLink own i yX12_page ∈ mm_tbl) (hn : 2 ≤ n0) : mm_cok l own n0 i (0, 0, 1, f_Md_page) := Or.inr (Or.inr ⟨rfl, yX12_page, cX12_page, 1, (some .int), 1, 12, TX12, 27, i_Md_page l, hn, by decide, by decide +kernel, rfl, fun _ _ _ e => (mm_gd_inv (mm_ga_inv e).2).2, hl, q_1821, q_70, q_179, q_1822⟩)
def p_Md_height : mm_P := ([(0, .aload_n 0, 1, 0), (1, .iload_n 1, 1, 0), (2, .iload_n 2, 1, 0), (3, .invokevirtual 317, 3, 0), (6, .istore_n 3, 1, 0), (7, .iconst 0, 1, 0), (8, .istore 4, 2, 0), (10, .iload_n 3, 1, 0), (11, .iconst 1, 1, 1), (12, .if_icmp .le 23, 3, 0), (15, .iload_n 3, 1, 0), (16, .aload_n 0, 1, 0), (17, .invokevirtual 320, 3, 0), (20, .iadd, 1, 0), (21, .iconst 1, 1, 1), (22, .isub, 1, 0), (23, .aload_n 0, 1, 0), (24, .invokevirtual 320, 3, 0), (27, .idiv, 1, 0), (28, .istore_n 3, 1, 0), (29, .iinc 4 1, 3, 1), (32, .goto (-22), 3, 0), (35, .iload 4, 2, 0), (37, .ireturn, 1, 0)], [], [(317, 0, 2, 1, f_Md_leaves), (320, 0, 0, 1, f_Md_page)], [], [], [(0, [0, 1, 2]), (10, [0, 3, 4])], [], 2)
def f_Md_height : mm_F := fun args h => mm_ga [1, 1, 1] args (mm_gd 12 args h (mm_run p_Md_height (mm_fu + 1) 0 args [] h))
set_option maxRecDepth 100000 in
theorem e_Md_height_0 (f : Nat) (t : Nat) (v1 : Int32) (v2 : Int32) (h : mm_H) : mm_run p_Md_height (f + 1) 0 [.ref t, .int v1, .int v2] [] h =
  mm_ci (f_Md_leaves [.ref t, .int v1, .int v2] h) fun x2 h1 =>
  mm_run p_Md_height f 10 [.ref t, .int x2, .int 0] [] h1 := rfl
theorem e_Md_height (t : Nat) (v1 : Int32) (v2 : Int32) (h : mm_H) {fs : List Value} (hb : h t = some (.inr (12, fs))) : f_Md_height [.ref t, .int v1, .int v2] h =
  mm_ci (f_Md_leaves [.ref t, .int v1, .int v2] h) fun x2 h1 =>
  mm_run p_Md_height mm_fu 10 [.ref t, .int x2, .int 0] [] h1 := (mm_ga_is rfl).trans ((mm_gd_is hb).trans (e_Md_height_0 mm_fu t v1 v2 h))
set_option maxRecDepth 100000 in
theorem e_Md_height_10 (f : Nat) (t : Nat) (v3 : Int32) (v4 : Int32) (h : mm_H) : mm_run p_Md_height (f + 1) 10 [.ref t, .int v3, .int v4] [] h =
  if (1 : Int32) < v3 then
    mm_ci (f_Md_page [.ref t] h) fun x2 h1 =>
    mm_ci (f_Md_page [.ref t] h1) fun x4 h3 =>
    if x4 = 0 then none else
    mm_run p_Md_height f 10 [.ref t, .int (((v3 + x2) - 1) / x4), .int (v4 + 1)] [] h3
  else
    some (some (.int v4), h) := rfl
set_option maxRecDepth 100000 in
theorem i_Md_height (l : Launch) : mm_Imp l yX12_height cX12_height 5 (some .int) 4 f_Md_height := mm_imp l (P := p_Md_height) mm_cls_ok mm_sys_ok (by decide) (mm_Pok_of (fun _ h => absurd h List.not_mem_nil) (List.forall_mem_cons.mpr ⟨v_Md_leaves l q_1803 (by decide), (List.forall_mem_cons.mpr ⟨v_Md_page l q_1819 (by decide), (fun _ h => absurd h List.not_mem_nil)⟩)⟩) (fun _ h => absurd h List.not_mem_nil) (fun _ h => absurd h List.not_mem_nil)) (by decide +kernel) rfl (cats := [1, 1, 1]) (fun as h r e => ⟨(mm_ga_inv e).1, (mm_gd_inv (mm_ga_inv e).2).1⟩) rfl (by decide)
theorem v_Md_height (l : Launch) {own : String} {i n0 : Nat} (hl : Cond.methodLink own i yX12_height ∈ mm_tbl) (hn : 5 ≤ n0) : mm_cok l own n0 i (0, 2, 1, f_Md_height) := Or.inr (Or.inr ⟨rfl, yX12_height, cX12_height, 5, (some .int), 4, 12, TX12, 27, i_Md_height l, hn, by decide, by decide +kernel, rfl, fun _ _ _ e => (mm_gd_inv (mm_ga_inv e).2).2, hl, q_1801, q_65, q_179, q_1802⟩)
def p_Md_entryAt : mm_P := ([(0, .aload_n 0, 1, 0), (1, .getfield 123, 3, 0), (4, .aload_n 0, 1, 0), (5, .iload_n 1, 1, 0), (6, .iload_n 2, 1, 0), (7, .invokevirtual 305, 3, 0), (10, .iconst 1, 1, 1), (11, .iadd, 1, 0), (12, .iload_n 3, 1, 0), (13, .iadd, 1, 0), (14, .iaload, 1, 0), (15, .iconst 1, 1, 1), (16, .ishr, 1, 0), (17, .ireturn, 1, 0)], [(123, 12, 14, 4)], [(305, 0, 2, 1, f_Md_startOf)], [], [], [(0, [0, 1, 2, 3])], [], 2)
def f_Md_entryAt : mm_F := fun args h => mm_ga [1, 1, 1, 1] args (mm_gd 12 args h (mm_run p_Md_entryAt (mm_fu + 1) 0 args [] h))
set_option maxRecDepth 100000 in
theorem e_Md_entryAt_0 (f : Nat) (t : Nat) (v1 : Int32) (v2 : Int32) (v3 : Int32) (h : mm_H) : mm_run p_Md_entryAt (f + 1) 0 [.ref t, .int v1, .int v2, .int v3] [] h =
  (mm_gr 12 14 h t).bind fun r1 =>
  mm_ci (f_Md_startOf [.ref t, .int v1, .int v2] h) fun x3 h2 =>
  (mm_li h2 r1 ((x3 + 1) + v3)).bind fun x4 =>
  some (some (.int (x4 >>> (1 &&& 31))), h2) := rfl
theorem e_Md_entryAt (t : Nat) (v1 : Int32) (v2 : Int32) (v3 : Int32) (h : mm_H) {fs : List Value} (hb : h t = some (.inr (12, fs))) : f_Md_entryAt [.ref t, .int v1, .int v2, .int v3] h =
  (mm_gr 12 14 h t).bind fun r1 =>
  mm_ci (f_Md_startOf [.ref t, .int v1, .int v2] h) fun x3 h2 =>
  (mm_li h2 r1 ((x3 + 1) + v3)).bind fun x4 =>
  some (some (.int (x4 >>> (1 &&& 31))), h2) := (mm_ga_is rfl).trans ((mm_gd_is hb).trans (e_Md_entryAt_0 mm_fu t v1 v2 v3 h))
set_option maxRecDepth 100000 in
theorem i_Md_entryAt (l : Launch) : mm_Imp l yX12_entryAt cX12_entryAt 4 (some .int) 2 f_Md_entryAt := mm_imp l (P := p_Md_entryAt) mm_cls_ok mm_sys_ok (by decide) (mm_Pok_of (List.forall_mem_cons.mpr ⟨k_X12_123, (fun _ h => absurd h List.not_mem_nil)⟩) (List.forall_mem_cons.mpr ⟨v_Md_startOf l q_1811 (by decide), (fun _ h => absurd h List.not_mem_nil)⟩) (fun _ h => absurd h List.not_mem_nil) (fun _ h => absurd h List.not_mem_nil)) (by decide +kernel) rfl (cats := [1, 1, 1, 1]) (fun as h r e => ⟨(mm_ga_inv e).1, (mm_gd_inv (mm_ga_inv e).2).1⟩) rfl (by decide)
theorem v_Md_entryAt (l : Launch) {own : String} {i n0 : Nat} (hl : Cond.methodLink own i yX12_entryAt ∈ mm_tbl) (hn : 3 ≤ n0) : mm_cok l own n0 i (0, 3, 1, f_Md_entryAt) := Or.inr (Or.inr ⟨rfl, yX12_entryAt, cX12_entryAt, 4, (some .int), 2, 12, TX12, 27, i_Md_entryAt l, hn, by decide, by decide +kernel, rfl, fun _ _ _ e => (mm_gd_inv (mm_ga_inv e).2).2, hl, q_1829, q_72, q_179, q_1830⟩)
def p_Md_placeFor : mm_P := ([(0, .iconst 0, 1, 0), (1, .istore 4, 2, 0), (3, .iconst 0, 1, 0), (4, .istore 5, 2, 0), (6, .iload 5, 2, 0), (8, .aload_n 0, 1, 0), (9, .iload_n 1, 1, 0), (10, .iload_n 2, 1, 0), (11, .invokevirtual 311, 3, 0), (14, .if_icmp .ge 31, 3, 0), (17, .iload 4, 2, 0), (19, .aload_n 0, 1, 0), (20, .iload_n 1, 1, 0), (21, .iload_n 2, 1, 0), (22, .iload 5, 2, 0), (24, .invokevirtual 308, 3, 0), (27, .iload_n 3, 1, 0), (28, .if_icmp .ge 7, 3, 0), (31, .iconst 1, 1, 1), (32, .goto 4, 3, 0), (35, .iconst 0, 1, 0), (36, .iadd, 1, 0), (37, .istore 4, 2, 0), (39, .iinc 5 1, 3, 1), (42, .goto (-36), 3, 0), (45, .iload 4, 2, 0), (47, .ireturn, 1, 0)], [], [(308, 0, 3, 1, f_Md_entryAt), (311, 0, 2, 1, f_Md_entries)], [], [], [(0, [0, 1, 2, 3]), (6, [0, 1, 2, 3, 4, 5])], [], 2)
def f_Md_placeFor : mm_F := fun args h => mm_ga [1, 1, 1, 1] args (mm_gd 12 args h (mm_run p_Md_placeFor (mm_fu + 1) 0 args [] h))
set_option maxRecDepth 100000 in
theorem e_Md_placeFor_0 (f : Nat) (t : Nat) (v1 : Int32) (v2 : Int32) (v3 : Int32) (h : mm_H) : mm_run p_Md_placeFor (f + 1) 0 [.ref t, .int v1, .int v2, .int v3] [] h =
  mm_run p_Md_placeFor f 6 [.ref t, .int v1, .int v2, .int v3, .int 0, .int 0] [] h := rfl
theorem e_Md_placeFor (t : Nat) (v1 : Int32) (v2 : Int32) (v3 : Int32) (h : mm_H) {fs : List Value} (hb : h t = some (.inr (12, fs))) : f_Md_placeFor [.ref t, .int v1, .int v2, .int v3] h =
  mm_run p_Md_placeFor mm_fu 6 [.ref t, .int v1, .int v2, .int v3, .int 0, .int 0] [] h := (mm_ga_is rfl).trans ((mm_gd_is hb).trans (e_Md_placeFor_0 mm_fu t v1 v2 v3 h))
set_option maxRecDepth 100000 in
theorem e_Md_placeFor_6 (f : Nat) (t : Nat) (v1 : Int32) (v2 : Int32) (v3 : Int32) (v4 : Int32) (v5 : Int32) (h : mm_H) : mm_run p_Md_placeFor (f + 1) 6 [.ref t, .int v1, .int v2, .int v3, .int v4, .int v5] [] h =
  mm_ci (f_Md_entries [.ref t, .int v1, .int v2] h) fun x2 h1 =>
  if v5 < x2 then
    mm_ci (f_Md_entryAt [.ref t, .int v1, .int v2, .int v5] h1) fun x4 h3 =>
    if x4 < v3 then
      mm_run p_Md_placeFor f 6 [.ref t, .int v1, .int v2, .int v3, .int (v4 + 1), .int (v5 + 1)] [] h3
    else
      mm_run p_Md_placeFor f 6 [.ref t, .int v1, .int v2, .int v3, .int (v4 + 0), .int (v5 + 1)] [] h3
  else
    some (some (.int v4), h1) := rfl
set_option maxRecDepth 100000 in
theorem i_Md_placeFor (l : Launch) : mm_Imp l yX12_placeFor cX12_placeFor 6 (some .int) 3 f_Md_placeFor := mm_imp l (P := p_Md_placeFor) mm_cls_ok mm_sys_ok (by decide) (mm_Pok_of (fun _ h => absurd h List.not_mem_nil) (List.forall_mem_cons.mpr ⟨v_Md_entryAt l q_1827 (by decide), (List.forall_mem_cons.mpr ⟨v_Md_entries l q_1807 (by decide), (fun _ h => absurd h List.not_mem_nil)⟩)⟩) (fun _ h => absurd h List.not_mem_nil) (fun _ h => absurd h List.not_mem_nil)) (by decide +kernel) rfl (cats := [1, 1, 1, 1]) (fun as h r e => ⟨(mm_ga_inv e).1, (mm_gd_inv (mm_ga_inv e).2).1⟩) rfl (by decide)
theorem v_Md_placeFor (l : Launch) {own : String} {i n0 : Nat} (hl : Cond.methodLink own i yX12_placeFor ∈ mm_tbl) (hn : 4 ≤ n0) : mm_cok l own n0 i (0, 3, 1, f_Md_placeFor) := Or.inr (Or.inr ⟨rfl, yX12_placeFor, cX12_placeFor, 6, (some .int), 3, 12, TX12, 27, i_Md_placeFor l, hn, by decide, by decide +kernel, rfl, fun _ _ _ e => (mm_gd_inv (mm_ga_inv e).2).2, hl, q_1825, q_71, q_179, q_1826⟩)
def p_Md_leafAround : mm_P := ([(0, .aload_n 0, 1, 0), (1, .iload_n 3, 1, 0), (2, .putfield 323, 3, 0), (5, .aload_n 0, 1, 0), (6, .getfield 323, 3, 0), (9, .ifCond .le 29, 3, 0), (12, .aload_n 0, 1, 0), (13, .iload_n 1, 1, 0), (14, .iload_n 2, 1, 0), (15, .aload_n 0, 1, 0), (16, .getfield 323, 3, 0), (19, .invokevirtual 314, 3, 0), (22, .ifCond .ne 16, 3, 0), (25, .aload_n 0, 1, 0), (26, .dup, 1, 0), (27, .getfield 323, 3, 0), (30, .iconst 1, 1, 1), (31, .isub, 1, 0), (32, .putfield 323, 3, 0), (35, .goto (-30), 3, 0), (38, .aload_n 0, 1, 0), (39, .iload_n 3, 1, 0), (40, .iconst 1, 1, 1), (41, .iadd, 1, 0), (42, .putfield 326, 3, 0), (45, .aload_n 0, 1, 0), (46, .getfield 326, 3, 0), (49, .aload_n 0, 1, 0), (50, .iload_n 1, 1, 0), (51, .iload_n 2, 1, 0), (52, .invokevirtual 311, 3, 0), (55, .if_icmp .ge 29, 3, 0), (58, .aload_n 0, 1, 0), (59, .iload_n 1, 1, 0), (60, .iload_n 2, 1, 0), (61, .aload_n 0, 1, 0), (62, .getfield 326, 3, 0), (65, .invokevirtual 314, 3, 0), (68, .ifCond .ne 16, 3, 0), (71, .aload_n 0, 1, 0), (72, .dup, 1, 0), (73, .getfield 326, 3, 0), (76, .iconst 1, 1, 1), (77, .iadd, 1, 0), (78, .putfield 326, 3, 0), (81, .goto (-36), 3, 0), (84, .return_, 1, 0)], [(323, 12, 20, 0), (326, 12, 21, 0)], [(311, 0, 2, 1, f_Md_entries), (314, 0, 3, 1, f_Md_isFirst)], [], [], [(0, [0, 1, 2, 3]), (5, [0, 1, 2, 3]), (45, [0, 1, 2])], [], 0)
def f_Md_leafAround : mm_F := fun args h => mm_ga [1, 1, 1, 1] args (mm_gd 12 args h (mm_run p_Md_leafAround (mm_fu + 1) 0 args [] h))
set_option maxRecDepth 100000 in
theorem e_Md_leafAround_0 (f : Nat) (t : Nat) (v1 : Int32) (v2 : Int32) (v3 : Int32) (h : mm_H) : mm_run p_Md_leafAround (f + 1) 0 [.ref t, .int v1, .int v2, .int v3] [] h =
  (mm_pf 12 20 (.int v3) h t).bind fun h1 =>
  mm_run p_Md_leafAround f 5 [.ref t, .int v1, .int v2, .int v3] [] h1 := rfl
theorem e_Md_leafAround (t : Nat) (v1 : Int32) (v2 : Int32) (v3 : Int32) (h : mm_H) {fs : List Value} (hb : h t = some (.inr (12, fs))) : f_Md_leafAround [.ref t, .int v1, .int v2, .int v3] h =
  (mm_pf 12 20 (.int v3) h t).bind fun h1 =>
  mm_run p_Md_leafAround mm_fu 5 [.ref t, .int v1, .int v2, .int v3] [] h1 := (mm_ga_is rfl).trans ((mm_gd_is hb).trans (e_Md_leafAround_0 mm_fu t v1 v2 v3 h))
set_option maxRecDepth 100000 in
theorem e_Md_leafAround_5 (f : Nat) (t : Nat) (v1 : Int32) (v2 : Int32) (v3 : Int32) (h : mm_H) : mm_run p_Md_leafAround (f + 1) 5 [.ref t, .int v1, .int v2, .int v3] [] h =
  (mm_gi 12 20 h t).bind fun x1 =>
  if (0 : Int32) < x1 then
    (mm_gi 12 20 h t).bind fun x2 =>
    mm_ci (f_Md_isFirst [.ref t, .int v1, .int v2, .int x2] h) fun x4 h3 =>
    if x4 = 0 then
      (mm_gi 12 20 h3 t).bind fun x5 =>
      (mm_pf 12 20 (.int (x5 - 1)) h3 t).bind fun h6 =>
      mm_run p_Md_leafAround f 5 [.ref t, .int v1, .int v2, .int v3] [] h6
    else
      (mm_pf 12 21 (.int (v3 + 1)) h3 t).bind fun h7 =>
      mm_run p_Md_leafAround f 45 [.ref t, .int v1, .int v2] [] h7
  else
    (mm_pf 12 21 (.int (v3 + 1)) h t).bind fun h8 =>
    mm_run p_Md_leafAround f 45 [.ref t, .int v1, .int v2] [] h8 := rfl
set_option maxRecDepth 100000 in
theorem e_Md_leafAround_45 (f : Nat) (t : Nat) (v1 : Int32) (v2 : Int32) (h : mm_H) : mm_run p_Md_leafAround (f + 1) 45 [.ref t, .int v1, .int v2] [] h =
  (mm_gi 12 21 h t).bind fun x1 =>
  mm_ci (f_Md_entries [.ref t, .int v1, .int v2] h) fun x3 h2 =>
  if x1 < x3 then
    (mm_gi 12 21 h2 t).bind fun x4 =>
    mm_ci (f_Md_isFirst [.ref t, .int v1, .int v2, .int x4] h2) fun x6 h5 =>
    if x6 = 0 then
      (mm_gi 12 21 h5 t).bind fun x7 =>
      (mm_pf 12 21 (.int (x7 + 1)) h5 t).bind fun h8 =>
      mm_run p_Md_leafAround f 45 [.ref t, .int v1, .int v2] [] h8
    else
      some (none, h5)
  else
    some (none, h2) := rfl
set_option maxRecDepth 100000 in
theorem i_Md_leafAround (l : Launch) : mm_Imp l yX12_leafAround cX12_leafAround 4 none 3 f_Md_leafAround := mm_imp l (P := p_Md_leafAround) mm_cls_ok mm_sys_ok (by decide) (mm_Pok_of (List.forall_mem_cons.mpr ⟨k_X12_323, (List.forall_mem_cons.mpr ⟨k_X12_326, (fun _ h => absurd h List.not_mem_nil)⟩)⟩) (List.forall_mem_cons.mpr ⟨v_Md_entries l q_1807 (by decide), (List.forall_mem_cons.mpr ⟨v_Md_isFirst l q_1815 (by decide), (fun _ h => absurd h List.not_mem_nil)⟩)⟩) (fun _ h => absurd h List.not_mem_nil) (fun _ h => absurd h List.not_mem_nil)) (by decide +kernel) rfl (cats := [1, 1, 1, 1]) (fun as h r e => ⟨(mm_ga_inv e).1, (mm_gd_inv (mm_ga_inv e).2).1⟩) rfl (by decide)
theorem v_Md_leafAround (l : Launch) {own : String} {i n0 : Nat} (hl : Cond.methodLink own i yX12_leafAround ∈ mm_tbl) (hn : 4 ≤ n0) : mm_cok l own n0 i (0, 3, 0, f_Md_leafAround) := Or.inr (Or.inr ⟨rfl, yX12_leafAround, cX12_leafAround, 4, none, 3, 12, TX12, 27, i_Md_leafAround l, hn, by decide, by decide +kernel, rfl, fun _ _ _ e => (mm_gd_inv (mm_ga_inv e).2).2, hl, q_1833, q_73, q_179, q_1834⟩)
def p_Md_puts : mm_P := ([(0, .aload_n 0, 1, 0), (1, .getfield 123, 3, 0), (4, .iload_n 1, 1, 0), (5, .iconst 3, 1, 3), (6, .iadd, 1, 0), (7, .dup2, 1, 0), (8, .iaload, 1, 0), (9, .aload_n 0, 1, 0), (10, .iload_n 1, 1, 0), (11, .iload_n 2, 1, 0), (12, .invokevirtual 329, 3, 0), (15, .iconst 2, 1, 2), (16, .iadd, 1, 0), (17, .iadd, 1, 0), (18, .iastore, 1, 0), (19, .aload_n 0, 1, 0), (20, .iload_n 1, 1, 0), (21, .iload_n 2, 1, 0), (22, .invokevirtual 305, 3, 0), (25, .iconst 1, 1, 1), (26, .iadd, 1, 0), (27, .istore 4, 2, 0), (29, .aload_n 0, 1, 0), (30, .iload_n 1, 1, 0), (31, .iload_n 2, 1, 0), (32, .iload_n 3, 1, 0), (33, .invokevirtual 332, 3, 0), (36, .istore 5, 2, 0), (38, .aload_n 0, 1, 0), (39, .iload_n 1, 1, 0), (40, .iload_n 2, 1, 0), (41, .invokevirtual 311, 3, 0), (44, .istore 6, 2, 0), (46, .iload 6, 2, 0), (48, .iload 5, 2, 0), (50, .if_icmp .le 31, 3, 0), (53, .aload_n 0, 1, 0), (54, .getfield 123, 3, 0), (57, .iload 4, 2, 0), (59, .iload 6, 2, 0), (61, .iadd, 1, 0), (62, .aload_n 0, 1, 0), (63, .getfield 123, 3, 0), (66, .iload 4, 2, 0), (68, .iload 6, 2, 0), (70, .iadd, 1, 0), (71, .iconst 1, 1, 1), (72, .isub, 1, 0), (73, .iaload, 1, 0), (74, .iastore, 1, 0), (75, .iinc 6 (-1), 3, (-1)), (78, .goto (-32), 3, 0), (81, .aload_n 0, 1, 0), (82, .getfield 123, 3, 0), (85, .iload 4, 2, 0), (87, .iconst 1, 1, 1), (88, .isub, 1, 0), (89, .dup2, 1, 0), (90, .iaload, 1, 0), (91, .iconst 1, 1, 1), (92, .iadd, 1, 0), (93, .iastore, 1, 0), (94, .aload_n 0, 1, 0), (95, .getfield 123, 3, 0), (98, .iload 4, 2, 0), (100, .iload 5, 2, 0), (102, .iadd, 1, 0), (103, .iconst 2, 1, 2), (104, .iload_n 3, 1, 0), (105, .imul, 1, 0), (106, .iload 5, 2, 0), (108, .ifCond .ne 7, 3, 0), (111, .iconst 1, 1, 1), (112, .goto 4, 3, 0), (115, .iconst 0, 1, 0), (116, .iadd, 1, 0), (117, .iastore, 1, 0), (118, .iload 5, 2, 0), (120, .ifCond .ne 36, 3, 0), (123, .aload_n 0, 1, 0), (124, .iload_n 1, 1, 0), (125, .iload_n 2, 1, 0), (126, .invokevirtual 311, 3, 0), (129, .iconst 1, 1, 1), (130, .if_icmp .le 26, 3, 0), (133, .aload_n 0, 1, 0), (134, .getfield 123, 3, 0), (137, .iload 4, 2, 0), (139, .iconst 1, 1, 1), (140, .iadd, 1, 0), (141, .dup2, 1, 0), (142, .iaload, 1, 0), (143, .aload_n 0, 1, 0), (144, .getfield 123, 3, 0), (147, .iload 4, 2, 0), (149, .iconst 1, 1, 1), (150, .iadd, 1, 0), (151, .iaload, 1, 0), (152, .iconst 2, 1, 2), (153, .irem, 1, 0), (154, .isub, 1, 0), (155, .iastore, 1, 0), (156, .aload_n 0, 1, 0), (157, .iload_n 1, 1, 0), (158, .iload_n 2, 1, 0), (159, .iload 5, 2, 0), (161, .invokevirtual 335, 3, 0), (164, .aload_n 0, 1, 0), (165, .getfield 326, 3, 0), (168, .aload_n 0, 1, 0), (169, .getfield 323, 3, 0), (172, .isub, 1, 0), (173, .aload_n 0, 1, 0), (174, .invokevirtual 320, 3, 0), (177, .if_icmp .le 28, 3, 0), (180, .aload_n 0, 1, 0), (181, .getfield 123, 3, 0), (184, .iload 4, 2, 0), (186, .aload_n 0, 1, 0), (187, .getfield 326, 3, 0), (190, .iadd, 1, 0), (191, .aload_n 0, 1, 0), (192, .invokevirtual 320, 3, 0), (195, .iconst 1, 1, 1), (196, .iadd, 1, 0), (197, .iconst 2, 1, 2), (198, .idiv, 1, 0), (199, .isub, 1, 0), (200, .dup2, 1, 0), (201, .iaload, 1, 0), (202, .iconst 1, 1, 1), (203, .iadd, 1, 0), (204, .iastore, 1, 0), (205, .return_, 1, 0)], [(123, 12, 14, 4), (323, 12, 20, 0), (326, 12, 21, 0)], [(305, 0, 2, 1, f_Md_startOf), (311, 0, 2, 1, f_Md_entries), (320, 0, 0, 1, f_Md_page), (329, 0, 2, 1, f_Md_height), (332, 0, 3, 1, f_Md_placeFor), (335, 0, 3, 0, f_Md_leafAround)], [], [], [(0, [0, 1, 2, 3]), (46, [0, 1, 2, 3, 4, 5, 6]), (156, [0, 1, 2, 4, 5])], [], 0)
def f_Md_puts : mm_F := fun args h => mm_ga [1, 1, 1, 1] args (mm_gd 12 args h (mm_run p_Md_puts (mm_fu + 1) 0 args [] h))
set_option maxRecDepth 100000 in
theorem e_Md_puts_0 (f : Nat) (t : Nat) (v1 : Int32) (v2 : Int32) (v3 : Int32) (h : mm_H) : mm_run p_Md_puts (f + 1) 0 [.ref t, .int v1, .int v2, .int v3] [] h =
  (mm_gr 12 14 h t).bind fun r1 =>
  (mm_li h r1 (v1 + 3)).bind fun x2 =>
  mm_ci (f_Md_height [.ref t, .int v1, .int v2] h) fun x4 h3 =>
  (mm_si h3 r1 (v1 + 3) (x2 + (x4 + 2))).bind fun h5 =>
  mm_ci (f_Md_startOf [.ref t, .int v1, .int v2] h5) fun x7 h6 =>
  mm_ci (f_Md_placeFor [.ref t, .int v1, .int v2, .int v3] h6) fun x9 h8 =>
  mm_ci (f_Md_entries [.ref t, .int v1, .int v2] h8) fun x11 h10 =>
  mm_run p_Md_puts f 46 [.ref t, .int v1, .int v2, .int v3, .int (x7 + 1), .int x9, .int x11] [] h10 := rfl
theorem e_Md_puts (t : Nat) (v1 : Int32) (v2 : Int32) (v3 : Int32) (h : mm_H) {fs : List Value} (hb : h t = some (.inr (12, fs))) : f_Md_puts [.ref t, .int v1, .int v2, .int v3] h =
  (mm_gr 12 14 h t).bind fun r1 =>
  (mm_li h r1 (v1 + 3)).bind fun x2 =>
  mm_ci (f_Md_height [.ref t, .int v1, .int v2] h) fun x4 h3 =>
  (mm_si h3 r1 (v1 + 3) (x2 + (x4 + 2))).bind fun h5 =>
  mm_ci (f_Md_startOf [.ref t, .int v1, .int v2] h5) fun x7 h6 =>
  mm_ci (f_Md_placeFor [.ref t, .int v1, .int v2, .int v3] h6) fun x9 h8 =>
  mm_ci (f_Md_entries [.ref t, .int v1, .int v2] h8) fun x11 h10 =>
  mm_run p_Md_puts mm_fu 46 [.ref t, .int v1, .int v2, .int v3, .int (x7 + 1), .int x9, .int x11] [] h10 := (mm_ga_is rfl).trans ((mm_gd_is hb).trans (e_Md_puts_0 mm_fu t v1 v2 v3 h))
set_option maxRecDepth 100000 in
theorem e_Md_puts_46 (f : Nat) (t : Nat) (v1 : Int32) (v2 : Int32) (v3 : Int32) (v4 : Int32) (v5 : Int32) (v6 : Int32) (h : mm_H) : mm_run p_Md_puts (f + 1) 46 [.ref t, .int v1, .int v2, .int v3, .int v4, .int v5, .int v6] [] h =
  if v5 < v6 then
    (mm_gr 12 14 h t).bind fun r1 =>
    (mm_gr 12 14 h t).bind fun r2 =>
    (mm_li h r2 ((v4 + v6) - 1)).bind fun x3 =>
    (mm_si h r1 (v4 + v6) x3).bind fun h4 =>
    mm_run p_Md_puts f 46 [.ref t, .int v1, .int v2, .int v3, .int v4, .int v5, .int (v6 + (-1))] [] h4
  else
    (mm_gr 12 14 h t).bind fun r5 =>
    (mm_li h r5 (v4 - 1)).bind fun x6 =>
    (mm_si h r5 (v4 - 1) (x6 + 1)).bind fun h7 =>
    (mm_gr 12 14 h7 t).bind fun r8 =>
    if v5 = 0 then
      (mm_si h7 r8 (v4 + v5) ((2 * v3) + 1)).bind fun h9 =>
      if v5 = 0 then
        mm_ci (f_Md_entries [.ref t, .int v1, .int v2] h9) fun x11 h10 =>
        if (1 : Int32) < x11 then
          (mm_gr 12 14 h10 t).bind fun r12 =>
          (mm_li h10 r12 (v4 + 1)).bind fun x13 =>
          (mm_gr 12 14 h10 t).bind fun r14 =>
          (mm_li h10 r14 (v4 + 1)).bind fun x15 =>
          (mm_si h10 r12 (v4 + 1) (x13 - (mm_rem x15 2))).bind fun h16 =>
          mm_run p_Md_puts f 156 [.ref t, .int v1, .int v2, .int v4, .int v5] [] h16
        else
          mm_run p_Md_puts f 156 [.ref t, .int v1, .int v2, .int v4, .int v5] [] h10
      else
        mm_run p_Md_puts f 156 [.ref t, .int v1, .int v2, .int v4, .int v5] [] h9
    else
      (mm_si h7 r8 (v4 + v5) ((2 * v3) + 0)).bind fun h17 =>
      if v5 = 0 then
        mm_ci (f_Md_entries [.ref t, .int v1, .int v2] h17) fun x19 h18 =>
        if (1 : Int32) < x19 then
          (mm_gr 12 14 h18 t).bind fun r20 =>
          (mm_li h18 r20 (v4 + 1)).bind fun x21 =>
          (mm_gr 12 14 h18 t).bind fun r22 =>
          (mm_li h18 r22 (v4 + 1)).bind fun x23 =>
          (mm_si h18 r20 (v4 + 1) (x21 - (mm_rem x23 2))).bind fun h24 =>
          mm_run p_Md_puts f 156 [.ref t, .int v1, .int v2, .int v4, .int v5] [] h24
        else
          mm_run p_Md_puts f 156 [.ref t, .int v1, .int v2, .int v4, .int v5] [] h18
      else
        mm_run p_Md_puts f 156 [.ref t, .int v1, .int v2, .int v4, .int v5] [] h17 := rfl
set_option maxRecDepth 100000 in
theorem e_Md_puts_156 (f : Nat) (t : Nat) (v1 : Int32) (v2 : Int32) (v4 : Int32) (v5 : Int32) (h : mm_H) : mm_run p_Md_puts (f + 1) 156 [.ref t, .int v1, .int v2, .int v4, .int v5] [] h =
  mm_cv (f_Md_leafAround [.ref t, .int v1, .int v2, .int v5] h) fun h1 =>
  (mm_gi 12 21 h1 t).bind fun x2 =>
  (mm_gi 12 20 h1 t).bind fun x3 =>
  mm_ci (f_Md_page [.ref t] h1) fun x5 h4 =>
  if x5 < (x2 - x3) then
    (mm_gr 12 14 h4 t).bind fun r6 =>
    (mm_gi 12 21 h4 t).bind fun x7 =>
    mm_ci (f_Md_page [.ref t] h4) fun x9 h8 =>
    (mm_li h8 r6 ((v4 + x7) - ((x9 + 1) / 2))).bind fun x10 =>
    (mm_si h8 r6 ((v4 + x7) - ((x9 + 1) / 2)) (x10 + 1)).bind fun h11 =>
    some (none, h11)
  else
    some (none, h4) := rfl
set_option maxRecDepth 100000 in
theorem i_Md_puts (l : Launch) : mm_Imp l yX12_puts cX12_puts 7 none 5 f_Md_puts := mm_imp l (P := p_Md_puts) mm_cls_ok mm_sys_ok (by decide) (mm_Pok_of (List.forall_mem_cons.mpr ⟨k_X12_123, (List.forall_mem_cons.mpr ⟨k_X12_323, (List.forall_mem_cons.mpr ⟨k_X12_326, (fun _ h => absurd h List.not_mem_nil)⟩)⟩)⟩) (List.forall_mem_cons.mpr ⟨v_Md_startOf l q_1811 (by decide), (List.forall_mem_cons.mpr ⟨v_Md_entries l q_1807 (by decide), (List.forall_mem_cons.mpr ⟨v_Md_page l q_1819 (by decide), (List.forall_mem_cons.mpr ⟨v_Md_height l q_1799 (by decide), (List.forall_mem_cons.mpr ⟨v_Md_placeFor l q_1823 (by decide), (List.forall_mem_cons.mpr ⟨v_Md_leafAround l q_1831 (by decide), (fun _ h => absurd h List.not_mem_nil)⟩)⟩)⟩)⟩)⟩)⟩) (fun _ h => absurd h List.not_mem_nil) (fun _ h => absurd h List.not_mem_nil)) (by decide +kernel) rfl (cats := [1, 1, 1, 1]) (fun as h r e => ⟨(mm_ga_inv e).1, (mm_gd_inv (mm_ga_inv e).2).1⟩) rfl (by decide)
theorem v_Md_puts (l : Launch) {own : String} {i n0 : Nat} (hl : Cond.methodLink own i yX12_puts ∈ mm_tbl) (hn : 6 ≤ n0) : mm_cok l own n0 i (0, 3, 0, f_Md_puts) := Or.inr (Or.inr ⟨rfl, yX12_puts, cX12_puts, 7, none, 5, 12, TX12, 27, i_Md_puts l, hn, by decide, by decide +kernel, rfl, fun _ _ _ e => (mm_gd_inv (mm_ga_inv e).2).2, hl, q_1797, q_64, q_179, q_1798⟩)
def p_Md_starts : mm_P := ([(0, .iconst 0, 1, 0), (1, .istore_n 2, 1, 0), (2, .iload_n 2, 1, 0), (3, .sipush 514, 3, 514), (6, .if_icmp .ge 18, 3, 0), (9, .aload_n 0, 1, 0), (10, .getfield 123, 3, 0), (13, .iload_n 1, 1, 0), (14, .iload_n 2, 1, 0), (15, .iadd, 1, 0), (16, .iconst 0, 1, 0), (17, .iastore, 1, 0), (18, .iinc 2 1, 3, 1), (21, .goto (-19), 3, 0), (24, .aload_n 0, 1, 0), (25, .getfield 123, 3, 0), (28, .iload_n 1, 1, 0), (29, .bipush 7, 2, 7), (31, .iadd, 1, 0), (32, .iconst (-1), 1, (-1)), (33, .iastore, 1, 0), (34, .aload_n 0, 1, 0), (35, .aload_n 0, 1, 0), (36, .getfield 111, 3, 0), (39, .iconst 1, 1, 1), (40, .iaload, 1, 0), (41, .putfield 402, 3, 0), (44, .iconst 0, 1, 0), (45, .istore_n 2, 1, 0), (46, .iload_n 2, 1, 0), (47, .aload_n 0, 1, 0), (48, .getfield 111, 3, 0), (51, .iconst 3, 1, 3), (52, .iaload, 1, 0), (53, .if_icmp .ge 104, 3, 0), (56, .aload_n 0, 1, 0), (57, .getfield 123, 3, 0), (60, .iload_n 1, 1, 0), (61, .bipush 13, 2, 13), (63, .iadd, 1, 0), (64, .iload_n 2, 1, 0), (65, .iadd, 1, 0), (66, .aload_n 0, 1, 0), (67, .getfield 111, 3, 0), (70, .bipush 17, 2, 17), (72, .iload_n 2, 1, 0), (73, .iadd, 1, 0), (74, .iaload, 1, 0), (75, .iastore, 1, 0), (76, .aload_n 0, 1, 0), (77, .getfield 123, 3, 0), (80, .iload_n 1, 1, 0), (81, .iconst 0, 1, 0), (82, .iadd, 1, 0), (83, .dup2, 1, 0), (84, .iaload, 1, 0), (85, .iconst 1, 1, 1), (86, .iload_n 2, 1, 0), (87, .ishl, 1, 0), (88, .ior, 1, 0), (89, .iastore, 1, 0), (90, .aload_n 0, 1, 0), (91, .getfield 123, 3, 0), (94, .iload_n 1, 1, 0), (95, .iconst 2, 1, 2), (96, .iadd, 1, 0), (97, .dup2, 1, 0), (98, .iaload, 1, 0), (99, .iconst 1, 1, 1), (100, .iadd, 1, 0), (101, .iastore, 1, 0), (102, .iconst 0, 1, 0), (103, .istore_n 3, 1, 0), (104, .iload_n 3, 1, 0), (105, .aload_n 0, 1, 0), (106, .invokevirtual 268, 3, 0), (109, .if_icmp .ge 42, 3, 0), (112, .aload_n 0, 1, 0), (113, .iload_n 1, 1, 0), (114, .iload_n 3, 1, 0), (115, .iload_n 2, 1, 0), (116, .invokevirtual 423, 3, 0), (119, .ifCond .eq 26, 3, 0), (122, .aload_n 0, 1, 0), (123, .iload_n 1, 1, 0), (124, .iload_n 3, 1, 0), (125, .aload_n 0, 1, 0), (126, .iload_n 3, 1, 0), (127, .iload_n 2, 1, 0), (128, .aload_n 0, 1, 0), (129, .iload_n 1, 1, 0), (130, .iload_n 2, 1, 0), (131, .aload_n 0, 1, 0), (132, .iload_n 3, 1, 0), (133, .invokevirtual 411, 3, 0), (136, .invokevirtual 286, 3, 0), (139, .invokevirtual 384, 3, 0), (142, .invokevirtual 390, 3, 0), (145, .iinc 3 1, 3, 1), (148, .goto (-44), 3, 0), (151, .iinc 2 1, 3, 1), (154, .goto (-108), 3, 0), (157, .iconst 0, 1, 0), (158, .istore_n 2, 1, 0), (159, .iload_n 2, 1, 0), (160, .aload_n 0, 1, 0), (161, .getfield 111, 3, 0), (164, .iconst 4, 1, 4), (165, .iaload, 1, 0), (166, .if_icmp .ge 74, 3, 0), (169, .aload_n 0, 1, 0), (170, .getfield 123, 3, 0), (173, .iload_n 1, 1, 0), (174, .bipush 43, 2, 43), (176, .iadd, 1, 0), (177, .iload_n 2, 1, 0), (178, .iadd, 1, 0), (179, .aload_n 0, 1, 0), (180, .getfield 111, 3, 0), (183, .bipush 37, 2, 37), (185, .iload_n 2, 1, 0), (186, .iadd, 1, 0), (187, .iaload, 1, 0), (188, .iastore, 1, 0), (189, .aload_n 0, 1, 0), (190, .getfield 123, 3, 0), (193, .iload_n 1, 1, 0), (194, .bipush 55, 2, 55), (196, .iadd, 1, 0), (197, .iload_n 2, 1, 0), (198, .iadd, 1, 0), (199, .aload_n 0, 1, 0), (200, .getfield 111, 3, 0), (203, .bipush 45, 2, 45), (205, .iload_n 2, 1, 0), (206, .iadd, 1, 0), (207, .iaload, 1, 0), (208, .iastore, 1, 0), (209, .aload_n 0, 1, 0), (210, .getfield 123, 3, 0), (213, .iload_n 1, 1, 0), (214, .bipush 67, 2, 67), (216, .iadd, 1, 0), (217, .iload_n 2, 1, 0), (218, .iadd, 1, 0), (219, .bipush (-3), 2, (-3)), (221, .iastore, 1, 0), (222, .aload_n 0, 1, 0), (223, .getfield 123, 3, 0), (226, .iload_n 1, 1, 0), (227, .iconst 4, 1, 4), (228, .iadd, 1, 0), (229, .dup2, 1, 0), (230, .iaload, 1, 0), (231, .iconst 1, 1, 1), (232, .iadd, 1, 0), (233, .iastore, 1, 0), (234, .iinc 2 1, 3, 1), (237, .goto (-78), 3, 0), (240, .aload_n 0, 1, 0), (241, .getfield 123, 3, 0), (244, .iload_n 1, 1, 0), (245, .iconst 3, 1, 3), (246, .iadd, 1, 0), (247, .iconst 0, 1, 0), (248, .iastore, 1, 0), (249, .return_, 1, 0)], [(111, 12, 10, 4), (123, 12, 14, 4), (402, 12, 16, 0)], [(268, 0, 0, 1, f_Md_indexes), (286, 0, 3, 1, f_Md_valueOf), (384, 0, 3, 1, f_Md_entryOf), (390, 0, 3, 0, f_Md_puts), (411, 0, 1, 1, f_Md_columnAt), (423, 0, 3, 1, f_Md_belongs)], [], [], [(0, [0, 1]), (2, [0, 1, 2]), (46, [0, 1, 2]), (104, [0, 1, 2, 3]), (159, [0, 1, 2])], [], 0)
def f_Md_starts : mm_F := fun args h => mm_ga [1, 1] args (mm_gd 12 args h (mm_run p_Md_starts (mm_fu + 1) 0 args [] h))
set_option maxRecDepth 100000 in
theorem e_Md_starts_0 (f : Nat) (t : Nat) (v1 : Int32) (h : mm_H) : mm_run p_Md_starts (f + 1) 0 [.ref t, .int v1] [] h =
  mm_run p_Md_starts f 2 [.ref t, .int v1, .int 0] [] h := rfl
theorem e_Md_starts (t : Nat) (v1 : Int32) (h : mm_H) {fs : List Value} (hb : h t = some (.inr (12, fs))) : f_Md_starts [.ref t, .int v1] h =
  mm_run p_Md_starts mm_fu 2 [.ref t, .int v1, .int 0] [] h := (mm_ga_is rfl).trans ((mm_gd_is hb).trans (e_Md_starts_0 mm_fu t v1 h))
set_option maxRecDepth 100000 in
theorem e_Md_starts_2 (f : Nat) (t : Nat) (v1 : Int32) (v2 : Int32) (h : mm_H) : mm_run p_Md_starts (f + 1) 2 [.ref t, .int v1, .int v2] [] h =
  if v2 < 514 then
    (mm_gr 12 14 h t).bind fun r1 =>
    (mm_si h r1 (v1 + v2) 0).bind fun h2 =>
    mm_run p_Md_starts f 2 [.ref t, .int v1, .int (v2 + 1)] [] h2
  else
    (mm_gr 12 14 h t).bind fun r3 =>
    (mm_si h r3 (v1 + 7) (-1)).bind fun h4 =>
    (mm_gr 12 10 h4 t).bind fun r5 =>
    (mm_li h4 r5 1).bind fun x6 =>
    (mm_pf 12 16 (.int x6) h4 t).bind fun h7 =>
    mm_run p_Md_starts f 46 [.ref t, .int v1, .int 0] [] h7 := rfl
set_option maxRecDepth 100000 in
theorem e_Md_starts_46 (f : Nat) (t : Nat) (v1 : Int32) (v2 : Int32) (h : mm_H) : mm_run p_Md_starts (f + 1) 46 [.ref t, .int v1, .int v2] [] h =
  (mm_gr 12 10 h t).bind fun r1 =>
  (mm_li h r1 3).bind fun x2 =>
  if v2 < x2 then
    (mm_gr 12 14 h t).bind fun r3 =>
    (mm_gr 12 10 h t).bind fun r4 =>
    (mm_li h r4 (17 + v2)).bind fun x5 =>
    (mm_si h r3 ((v1 + 13) + v2) x5).bind fun h6 =>
    (mm_gr 12 14 h6 t).bind fun r7 =>
    (mm_li h6 r7 (v1 + 0)).bind fun x8 =>
    (mm_si h6 r7 (v1 + 0) (x8 ||| (1 <<< (v2 &&& 31)))).bind fun h9 =>
    (mm_gr 12 14 h9 t).bind fun r10 =>
    (mm_li h9 r10 (v1 + 2)).bind fun x11 =>
    (mm_si h9 r10 (v1 + 2) (x11 + 1)).bind fun h12 =>
    mm_run p_Md_starts f 104 [.ref t, .int v1, .int v2, .int 0] [] h12
  else
    mm_run p_Md_starts f 159 [.ref t, .int v1, .int 0] [] h := rfl
set_option maxRecDepth 100000 in
theorem e_Md_starts_104 (f : Nat) (t : Nat) (v1 : Int32) (v2 : Int32) (v3 : Int32) (h : mm_H) : mm_run p_Md_starts (f + 1) 104 [.ref t, .int v1, .int v2, .int v3] [] h =
  mm_ci (f_Md_indexes [.ref t] h) fun x2 h1 =>
  if v3 < x2 then
    mm_ci (f_Md_belongs [.ref t, .int v1, .int v3, .int v2] h1) fun x4 h3 =>
    if x4 = 0 then
      mm_run p_Md_starts f 104 [.ref t, .int v1, .int v2, .int (v3 + 1)] [] h3
    else
      mm_ci (f_Md_columnAt [.ref t, .int v3] h3) fun x6 h5 =>
      mm_ci (f_Md_valueOf [.ref t, .int v1, .int v2, .int x6] h5) fun x8 h7 =>
      mm_ci (f_Md_entryOf [.ref t, .int v3, .int v2, .int x8] h7) fun x10 h9 =>
      mm_cv (f_Md_puts [.ref t, .int v1, .int v3, .int x10] h9) fun h11 =>
      mm_run p_Md_starts f 104 [.ref t, .int v1, .int v2, .int (v3 + 1)] [] h11
  else
    mm_run p_Md_starts f 46 [.ref t, .int v1, .int (v2 + 1)] [] h1 := rfl
set_option maxRecDepth 100000 in
theorem e_Md_starts_159 (f : Nat) (t : Nat) (v1 : Int32) (v2 : Int32) (h : mm_H) : mm_run p_Md_starts (f + 1) 159 [.ref t, .int v1, .int v2] [] h =
  (mm_gr 12 10 h t).bind fun r1 =>
  (mm_li h r1 4).bind fun x2 =>
  if v2 < x2 then
    (mm_gr 12 14 h t).bind fun r3 =>
    (mm_gr 12 10 h t).bind fun r4 =>
    (mm_li h r4 (37 + v2)).bind fun x5 =>
    (mm_si h r3 ((v1 + 43) + v2) x5).bind fun h6 =>
    (mm_gr 12 14 h6 t).bind fun r7 =>
    (mm_gr 12 10 h6 t).bind fun r8 =>
    (mm_li h6 r8 (45 + v2)).bind fun x9 =>
    (mm_si h6 r7 ((v1 + 55) + v2) x9).bind fun h10 =>
    (mm_gr 12 14 h10 t).bind fun r11 =>
    (mm_si h10 r11 ((v1 + 67) + v2) (-3)).bind fun h12 =>
    (mm_gr 12 14 h12 t).bind fun r13 =>
    (mm_li h12 r13 (v1 + 4)).bind fun x14 =>
    (mm_si h12 r13 (v1 + 4) (x14 + 1)).bind fun h15 =>
    mm_run p_Md_starts f 159 [.ref t, .int v1, .int (v2 + 1)] [] h15
  else
    (mm_gr 12 14 h t).bind fun r16 =>
    (mm_si h r16 (v1 + 3) 0).bind fun h17 =>
    some (none, h17) := rfl
set_option maxRecDepth 100000 in
theorem i_Md_starts (l : Launch) : mm_Imp l yX12_starts cX12_starts 4 none 7 f_Md_starts := mm_imp l (P := p_Md_starts) mm_cls_ok mm_sys_ok (by decide) (mm_Pok_of (List.forall_mem_cons.mpr ⟨k_X12_111, (List.forall_mem_cons.mpr ⟨k_X12_123, (List.forall_mem_cons.mpr ⟨k_X12_402, (fun _ h => absurd h List.not_mem_nil)⟩)⟩)⟩) (List.forall_mem_cons.mpr ⟨v_Md_indexes l q_1741 (by decide), (List.forall_mem_cons.mpr ⟨v_Md_valueOf l q_1761 (by decide), (List.forall_mem_cons.mpr ⟨v_Md_entryOf l q_1791 (by decide), (List.forall_mem_cons.mpr ⟨v_Md_puts l q_1795 (by decide), (List.forall_mem_cons.mpr ⟨v_Md_columnAt l q_1787 (by decide), (List.forall_mem_cons.mpr ⟨v_Md_belongs l q_1745 (by decide), (fun _ h => absurd h List.not_mem_nil)⟩)⟩)⟩)⟩)⟩)⟩) (fun _ h => absurd h List.not_mem_nil) (fun _ h => absurd h List.not_mem_nil)) (by decide +kernel) rfl (cats := [1, 1]) (fun as h r e => ⟨(mm_ga_inv e).1, (mm_gd_inv (mm_ga_inv e).2).1⟩) rfl (by decide)
theorem v_Md_starts (l : Launch) {own : String} {i n0 : Nat} (hl : Cond.methodLink own i yX12_starts ∈ mm_tbl) (hn : 8 ≤ n0) : mm_cok l own n0 i (0, 1, 0, f_Md_starts) := Or.inr (Or.inr ⟨rfl, yX12_starts, cX12_starts, 4, none, 7, 12, TX12, 27, i_Md_starts l, hn, by decide, by decide +kernel, rfl, fun _ _ _ e => (mm_gd_inv (mm_ga_inv e).2).2, hl, q_1739, q_52, q_179, q_1740⟩)
def p_Md_begins : mm_P := ([(0, .aload_n 0, 1, 0), (1, .iconst 0, 1, 0), (2, .invokevirtual 446, 3, 0), (5, .aload_n 0, 1, 0), (6, .getfield 120, 3, 0), (9, .iconst 0, 1, 0), (10, .iconst 0, 1, 0), (11, .iastore, 1, 0), (12, .aload_n 0, 1, 0), (13, .iconst 0, 1, 0), (14, .putfield 449, 3, 0), (17, .aload_n 0, 1, 0), (18, .iconst (-1), 1, (-1)), (19, .putfield 452, 3, 0), (22, .return_, 1, 0)], [(120, 12, 13, 4), (449, 12, 15, 0), (452, 12, 17, 0)], [(446, 0, 1, 0, f_Md_starts)], [], [], [(0, [0])], [], 0)
def f_Md_begins : mm_F := fun args h => mm_ga [1] args (mm_gd 12 args h (mm_run p_Md_begins (mm_fu + 1) 0 args [] h))
set_option maxRecDepth 100000 in
theorem e_Md_begins_0 (f : Nat) (t : Nat) (h : mm_H) : mm_run p_Md_begins (f + 1) 0 [.ref t] [] h =
  mm_cv (f_Md_starts [.ref t, .int 0] h) fun h1 =>
  (mm_gr 12 13 h1 t).bind fun r2 =>
  (mm_si h1 r2 0 0).bind fun h3 =>
  (mm_pf 12 15 (.int 0) h3 t).bind fun h4 =>
  (mm_pf 12 17 (.int (-1)) h4 t).bind fun h5 =>
  some (none, h5) := rfl
theorem e_Md_begins (t : Nat) (h : mm_H) {fs : List Value} (hb : h t = some (.inr (12, fs))) : f_Md_begins [.ref t] h =
  mm_cv (f_Md_starts [.ref t, .int 0] h) fun h1 =>
  (mm_gr 12 13 h1 t).bind fun r2 =>
  (mm_si h1 r2 0 0).bind fun h3 =>
  (mm_pf 12 15 (.int 0) h3 t).bind fun h4 =>
  (mm_pf 12 17 (.int (-1)) h4 t).bind fun h5 =>
  some (none, h5) := (mm_ga_is rfl).trans ((mm_gd_is hb).trans (e_Md_begins_0 mm_fu t h))
set_option maxRecDepth 100000 in
theorem i_Md_begins (l : Launch) : mm_Imp l yX12_begins cX12_begins 1 none 8 f_Md_begins := mm_imp l (P := p_Md_begins) mm_cls_ok mm_sys_ok (by decide) (mm_Pok_of (List.forall_mem_cons.mpr ⟨k_X12_120, (List.forall_mem_cons.mpr ⟨k_X12_449, (List.forall_mem_cons.mpr ⟨k_X12_452, (fun _ h => absurd h List.not_mem_nil)⟩)⟩)⟩) (List.forall_mem_cons.mpr ⟨v_Md_starts l q_1737 (by decide), (fun _ h => absurd h List.not_mem_nil)⟩) (fun _ h => absurd h List.not_mem_nil) (fun _ h => absurd h List.not_mem_nil)) (by decide +kernel) rfl (cats := [1]) (fun as h r e => ⟨(mm_ga_inv e).1, (mm_gd_inv (mm_ga_inv e).2).1⟩) rfl (by decide)
theorem v_Md_begins (l : Launch) {own : String} {i n0 : Nat} (hl : Cond.methodLink own i yX12_begins ∈ mm_tbl) (hn : 9 ≤ n0) : mm_cok l own n0 i (0, 0, 0, f_Md_begins) := Or.inr (Or.inr ⟨rfl, yX12_begins, cX12_begins, 1, none, 8, 12, TX12, 27, i_Md_begins l, hn, by decide, by decide +kernel, rfl, fun _ _ _ e => (mm_gd_inv (mm_ga_inv e).2).2, hl, q_1735, q_51, q_179, q_1736⟩)
def p_Md_isLetter : mm_P := ([(0, .iload_n 0, 1, 0), (1, .bipush 97, 2, 97), (3, .if_icmp .lt 13, 3, 0), (6, .iload_n 0, 1, 0), (7, .bipush 122, 2, 122), (9, .if_icmp .gt 7, 3, 0), (12, .iconst 1, 1, 1), (13, .goto 4, 3, 0), (16, .iconst 0, 1, 0), (17, .ireturn, 1, 0)], [], [], [], [], [(0, [0])], [], 1)
def f_Md_isLetter : mm_F := fun args h => mm_ga [1] args (mm_run p_Md_isLetter (mm_fu + 1) 0 args [] h)
set_option maxRecDepth 100000 in
theorem e_Md_isLetter_0 (f : Nat) (v0 : Int32) (h : mm_H) : mm_run p_Md_isLetter (f + 1) 0 [.int v0] [] h =
  if v0 < 97 then
    some (some (.int 0), h)
  else
    if (122 : Int32) < v0 then
      some (some (.int 0), h)
    else
      some (some (.int 1), h) := rfl
theorem e_Md_isLetter (v0 : Int32) (h : mm_H) : f_Md_isLetter [.int v0] h =
  if v0 < 97 then
    some (some (.int 0), h)
  else
    if (122 : Int32) < v0 then
      some (some (.int 0), h)
    else
      some (some (.int 1), h) := (mm_ga_is rfl).trans (e_Md_isLetter_0 mm_fu v0 h)
set_option maxRecDepth 100000 in
theorem i_Md_isLetter (l : Launch) : mm_Imp l yX12_isLetter cX12_isLetter 1 (some .boolean) 1 f_Md_isLetter := mm_imp l (P := p_Md_isLetter) mm_cls_ok mm_sys_ok (by decide) (mm_Pok_of (fun _ h => absurd h List.not_mem_nil) (fun _ h => absurd h List.not_mem_nil) (fun _ h => absurd h List.not_mem_nil) (fun _ h => absurd h List.not_mem_nil)) (by decide +kernel) rfl (cats := [1]) (fun as h r e => ⟨(mm_ga_inv e).1, (mm_ga_inv e).2⟩) rfl (by decide)
theorem v_Md_isLetter (l : Launch) {own : String} {i n0 : Nat} (hl : Cond.methodLink own i yX12_isLetter ∈ mm_tbl ∨ ∃ host, Cond.methodLinkNest own i yX12_isLetter host ∈ mm_nest) (hn : 2 ≤ n0) : mm_cok l own n0 i (1, 1, 1, f_Md_isLetter) := Or.inr (Or.inl ⟨rfl, yX12_isLetter, cX12_isLetter, 1, (some .boolean), 1, i_Md_isLetter l, hn, by decide, by decide +kernel, hl, q_1926, q_179, q_1927⟩)
def p_Md_isDigit : mm_P := ([(0, .iload_n 0, 1, 0), (1, .bipush 48, 2, 48), (3, .if_icmp .lt 13, 3, 0), (6, .iload_n 0, 1, 0), (7, .bipush 57, 2, 57), (9, .if_icmp .gt 7, 3, 0), (12, .iconst 1, 1, 1), (13, .goto 4, 3, 0), (16, .iconst 0, 1, 0), (17, .ireturn, 1, 0)], [], [], [], [], [(0, [0])], [], 1)
def f_Md_isDigit : mm_F := fun args h => mm_ga [1] args (mm_run p_Md_isDigit (mm_fu + 1) 0 args [] h)
set_option maxRecDepth 100000 in
theorem e_Md_isDigit_0 (f : Nat) (v0 : Int32) (h : mm_H) : mm_run p_Md_isDigit (f + 1) 0 [.int v0] [] h =
  if v0 < 48 then
    some (some (.int 0), h)
  else
    if (57 : Int32) < v0 then
      some (some (.int 0), h)
    else
      some (some (.int 1), h) := rfl
theorem e_Md_isDigit (v0 : Int32) (h : mm_H) : f_Md_isDigit [.int v0] h =
  if v0 < 48 then
    some (some (.int 0), h)
  else
    if (57 : Int32) < v0 then
      some (some (.int 0), h)
    else
      some (some (.int 1), h) := (mm_ga_is rfl).trans (e_Md_isDigit_0 mm_fu v0 h)
set_option maxRecDepth 100000 in
theorem i_Md_isDigit (l : Launch) : mm_Imp l yX12_isDigit cX12_isDigit 1 (some .boolean) 1 f_Md_isDigit := mm_imp l (P := p_Md_isDigit) mm_cls_ok mm_sys_ok (by decide) (mm_Pok_of (fun _ h => absurd h List.not_mem_nil) (fun _ h => absurd h List.not_mem_nil) (fun _ h => absurd h List.not_mem_nil) (fun _ h => absurd h List.not_mem_nil)) (by decide +kernel) rfl (cats := [1]) (fun as h r e => ⟨(mm_ga_inv e).1, (mm_ga_inv e).2⟩) rfl (by decide)
theorem v_Md_isDigit (l : Launch) {own : String} {i n0 : Nat} (hl : Cond.methodLink own i yX12_isDigit ∈ mm_tbl ∨ ∃ host, Cond.methodLinkNest own i yX12_isDigit host ∈ mm_nest) (hn : 2 ≤ n0) : mm_cok l own n0 i (1, 1, 1, f_Md_isDigit) := Or.inr (Or.inl ⟨rfl, yX12_isDigit, cX12_isDigit, 1, (some .boolean), 1, i_Md_isDigit l, hn, by decide, by decide +kernel, hl, q_1933, q_179, q_1934⟩)
def p_Md_rank : mm_P := ([(0, .iload_n 0, 1, 0), (1, .invokestatic 149, 3, 0), (4, .ifCond .eq 10, 3, 0), (7, .iload_n 0, 1, 0), (8, .bipush 96, 2, 96), (10, .isub, 1, 0), (11, .goto 7, 3, 0), (14, .iload_n 0, 1, 0), (15, .bipush 21, 2, 21), (17, .isub, 1, 0), (18, .ireturn, 1, 0)], [], [(149, 1, 1, 1, f_Md_isLetter)], [], [], [(0, [0])], [], 2)
def f_Md_rank : mm_F := fun args h => mm_ga [1] args (mm_run p_Md_rank (mm_fu + 1) 0 args [] h)
set_option maxRecDepth 100000 in
theorem e_Md_rank_0 (f : Nat) (v0 : Int32) (h : mm_H) : mm_run p_Md_rank (f + 1) 0 [.int v0] [] h =
  mm_ci (f_Md_isLetter [.int v0] h) fun x2 h1 =>
  if x2 = 0 then
    some (some (.int (v0 - 21)), h1)
  else
    some (some (.int (v0 - 96)), h1) := rfl
theorem e_Md_rank (v0 : Int32) (h : mm_H) : f_Md_rank [.int v0] h =
  mm_ci (f_Md_isLetter [.int v0] h) fun x2 h1 =>
  if x2 = 0 then
    some (some (.int (v0 - 21)), h1)
  else
    some (some (.int (v0 - 96)), h1) := (mm_ga_is rfl).trans (e_Md_rank_0 mm_fu v0 h)
set_option maxRecDepth 100000 in
theorem i_Md_rank (l : Launch) : mm_Imp l yX12_rank cX12_rank 1 (some .int) 2 f_Md_rank := mm_imp l (P := p_Md_rank) mm_cls_ok mm_sys_ok (by decide) (mm_Pok_of (fun _ h => absurd h List.not_mem_nil) (List.forall_mem_cons.mpr ⟨v_Md_isLetter l (Or.inl q_1925) (by decide), (fun _ h => absurd h List.not_mem_nil)⟩) (fun _ h => absurd h List.not_mem_nil) (fun _ h => absurd h List.not_mem_nil)) (by decide +kernel) rfl (cats := [1]) (fun as h r e => ⟨(mm_ga_inv e).1, (mm_ga_inv e).2⟩) rfl (by decide)
theorem v_Md_rank (l : Launch) {own : String} {i n0 : Nat} (hl : Cond.methodLink own i yX12_rank ∈ mm_tbl ∨ ∃ host, Cond.methodLinkNest own i yX12_rank host ∈ mm_nest) (hn : 3 ≤ n0) : mm_cok l own n0 i (1, 1, 1, f_Md_rank) := Or.inr (Or.inl ⟨rfl, yX12_rank, cX12_rank, 1, (some .int), 2, i_Md_rank l, hn, by decide, by decide +kernel, hl, q_1930, q_179, q_1931⟩)
def p_Md_isSignOf : mm_P := ([(0, .iload_n 0, 1, 0), (1, .bipush 59, 2, 59), (3, .if_icmp .ne 7, 3, 0), (6, .iconst 1, 1, 1), (7, .goto 4, 3, 0), (10, .iconst 0, 1, 0), (11, .ireturn, 1, 0)], [], [], [], [], [(0, [0])], [], 1)
def f_Md_isSignOf : mm_F := fun args h => mm_ga [1] args (mm_run p_Md_isSignOf (mm_fu + 1) 0 args [] h)
set_option maxRecDepth 100000 in
theorem e_Md_isSignOf_0 (f : Nat) (v0 : Int32) (h : mm_H) : mm_run p_Md_isSignOf (f + 1) 0 [.int v0] [] h =
  if v0 = 59 then
    some (some (.int 1), h)
  else
    some (some (.int 0), h) := rfl
theorem e_Md_isSignOf (v0 : Int32) (h : mm_H) : f_Md_isSignOf [.int v0] h =
  if v0 = 59 then
    some (some (.int 1), h)
  else
    some (some (.int 0), h) := (mm_ga_is rfl).trans (e_Md_isSignOf_0 mm_fu v0 h)
set_option maxRecDepth 100000 in
theorem i_Md_isSignOf (l : Launch) : mm_Imp l yX12_isSignOf cX12_isSignOf 1 (some .boolean) 1 f_Md_isSignOf := mm_imp l (P := p_Md_isSignOf) mm_cls_ok mm_sys_ok (by decide) (mm_Pok_of (fun _ h => absurd h List.not_mem_nil) (fun _ h => absurd h List.not_mem_nil) (fun _ h => absurd h List.not_mem_nil) (fun _ h => absurd h List.not_mem_nil)) (by decide +kernel) rfl (cats := [1]) (fun as h r e => ⟨(mm_ga_inv e).1, (mm_ga_inv e).2⟩) rfl (by decide)
theorem v_Md_isSignOf (l : Launch) {own : String} {i n0 : Nat} (hl : Cond.methodLink own i yX12_isSignOf ∈ mm_tbl ∨ ∃ host, Cond.methodLinkNest own i yX12_isSignOf host ∈ mm_nest) (hn : 2 ≤ n0) : mm_cok l own n0 i (1, 1, 1, f_Md_isSignOf) := Or.inr (Or.inl ⟨rfl, yX12_isSignOf, cX12_isSignOf, 1, (some .boolean), 1, i_Md_isSignOf l, hn, by decide, by decide +kernel, hl, q_1938, q_179, q_1939⟩)
def p_Md_cutAll : mm_P := ([(0, .aload_n 0, 1, 0), (1, .aload_n 0, 1, 0), (2, .getfield 11, 3, 0), (5, .putfield 153, 3, 0), (8, .aload_n 0, 1, 0), (9, .iconst 0, 1, 0), (10, .putfield 11, 3, 0), (13, .iconst 0, 1, 0), (14, .istore_n 1, 1, 0), (15, .iconst 0, 1, 0), (16, .istore_n 2, 1, 0), (17, .iload_n 2, 1, 0), (18, .aload_n 0, 1, 0), (19, .getfield 153, 3, 0), (22, .if_icmp .ge 257, 3, 0), (25, .aload_n 0, 1, 0), (26, .getfield 14, 3, 0), (29, .iload_n 2, 1, 0), (30, .iaload, 1, 0), (31, .istore_n 3, 1, 0), (32, .iload_n 3, 1, 0), (33, .bipush 10, 2, 10), (35, .if_icmp .eq 9, 3, 0), (38, .iload_n 3, 1, 0), (39, .bipush 32, 2, 32), (41, .if_icmp .ne 9, 3, 0), (44, .iinc 2 1, 3, 1), (47, .goto (-30), 3, 0), (50, .iload_n 2, 1, 0), (51, .istore 4, 2, 0), (53, .lconst 0, 1, 0), (54, .lstore 5, 2, 0), (56, .aload_n 0, 1, 0), (57, .getfield 27, 3, 0), (60, .iload_n 1, 1, 0), (61, .iload_n 2, 1, 0), (62, .iastore, 1, 0), (63, .iload_n 3, 1, 0), (64, .invokestatic 149, 3, 0), (67, .ifCond .eq 85, 3, 0), (70, .iload_n 2, 1, 0), (71, .aload_n 0, 1, 0), (72, .getfield 153, 3, 0), (75, .if_icmp .ge 54, 3, 0), (78, .aload_n 0, 1, 0), (79, .getfield 14, 3, 0), (82, .iload_n 2, 1, 0), (83, .iaload, 1, 0), (84, .invokestatic 149, 3, 0), (87, .ifCond .eq 42, 3, 0), (90, .iload_n 2, 1, 0), (91, .iload 4, 2, 0), (93, .isub, 1, 0), (94, .bipush 8, 2, 8), (96, .if_icmp .ge 23, 3, 0), (99, .ldc2_w 156, 3, 0), (102, .lload 5, 2, 0), (104, .lmul, 1, 0), (105, .aload_n 0, 1, 0), (106, .getfield 14, 3, 0), (109, .iload_n 2, 1, 0), (110, .iaload, 1, 0), (111, .invokestatic 158, 3, 0), (114, .i2l, 1, 0), (115, .ladd, 1, 0), (116, .goto 5, 3, 0), (119, .lload 5, 2, 0), (121, .lstore 5, 2, 0), (123, .iinc 2 1, 3, 1), (126, .goto (-56), 3, 0), (129, .aload_n 0, 1, 0), (130, .getfield 24, 3, 0), (133, .iload_n 1, 1, 0), (134, .iload_n 2, 1, 0), (135, .iload 4, 2, 0), (137, .isub, 1, 0), (138, .bipush 8, 2, 8), (140, .if_icmp .le 7, 3, 0), (143, .iconst 4, 1, 4), (144, .goto 4, 3, 0), (147, .iconst 1, 1, 1), (148, .iastore, 1, 0), (149, .goto 116, 3, 0), (152, .iload_n 3, 1, 0), (153, .invokestatic 162, 3, 0), (156, .ifCond .eq 84, 3, 0), (159, .iload_n 2, 1, 0), (160, .aload_n 0, 1, 0), (161, .getfield 153, 3, 0), (164, .if_icmp .ge 54, 3, 0), (167, .aload_n 0, 1, 0), (168, .getfield 14, 3, 0), (171, .iload_n 2, 1, 0), (172, .iaload, 1, 0), (173, .invokestatic 162, 3, 0), (176, .ifCond .eq 42, 3, 0), (179, .iload_n 2, 1, 0), (180, .iload 4, 2, 0), (182, .isub, 1, 0), (183, .iconst 4, 1, 4), (184, .if_icmp .ge 24, 3, 0), (187, .ldc2_w 165, 3, 0), (190, .lload 5, 2, 0), (192, .lmul, 1, 0), (193, .aload_n 0, 1, 0), (194, .getfield 14, 3, 0), (197, .iload_n 2, 1, 0), (198, .iaload, 1, 0), (199, .i2l, 1, 0), (200, .ladd, 1, 0), (201, .ldc2_w 167, 3, 0), (204, .lsub, 1, 0), (205, .goto 5, 3, 0), (208, .lload 5, 2, 0), (210, .lstore 5, 2, 0), (212, .iinc 2 1, 3, 1), (215, .goto (-56), 3, 0), (218, .aload_n 0, 1, 0), (219, .getfield 24, 3, 0), (222, .iload_n 1, 1, 0), (223, .iload_n 2, 1, 0), (224, .iload 4, 2, 0), (226, .isub, 1, 0), (227, .iconst 4, 1, 4), (228, .if_icmp .le 7, 3, 0), (231, .iconst 4, 1, 4), (232, .goto 4, 3, 0), (235, .iconst 2, 1, 2), (236, .iastore, 1, 0), (237, .goto 28, 3, 0), (240, .iload_n 3, 1, 0), (241, .i2l, 1, 0), (242, .lstore 5, 2, 0), (244, .aload_n 0, 1, 0), (245, .getfield 24, 3, 0), (248, .iload_n 1, 1, 0), (249, .iload_n 3, 1, 0), (250, .invokestatic 169, 3, 0), (253, .ifCond .eq 7, 3, 0), (256, .iconst 3, 1, 3), (257, .goto 4, 3, 0), (260, .iconst 4, 1, 4), (261, .iastore, 1, 0), (262, .iinc 2 1, 3, 1), (265, .aload_n 0, 1, 0), (266, .getfield 30, 3, 0), (269, .iload_n 1, 1, 0), (270, .lload 5, 2, 0), (272, .lastore, 1, 0), (273, .iinc 1 1, 3, 1), (276, .goto (-259), 3, 0), (279, .aload_n 0, 1, 0), (280, .getfield 24, 3, 0), (283, .iload_n 1, 1, 0), (284, .iconst 0, 1, 0), (285, .iastore, 1, 0), (286, .aload_n 0, 1, 0), (287, .getfield 27, 3, 0), (290, .iload_n 1, 1, 0), (291, .aload_n 0, 1, 0), (292, .getfield 153, 3, 0), (295, .iastore, 1, 0), (296, .aload_n 0, 1, 0), (297, .iconst 0, 1, 0), (298, .putfield 172, 3, 0), (301, .aload_n 0, 1, 0), (302, .iconst 0, 1, 0), (303, .putfield 175, 3, 0), (306, .return_, 1, 0)], [(11, 12, 2, 0), (14, 12, 1, 4), (24, 12, 4, 4), (27, 12, 5, 4), (30, 12, 6, 4), (153, 12, 3, 0), (172, 12, 7, 0), (175, 12, 8, 0)], [(149, 1, 1, 1, f_Md_isLetter), (158, 1, 1, 1, f_Md_rank), (162, 1, 1, 1, f_Md_isDigit), (169, 1, 1, 1, f_Md_isSignOf)], [], [(156, 37), (165, 10), (167, 48)], [(0, [0]), (17, [0, 1, 2]), (70, [0, 1, 2, 4, 5]), (159, [0, 1, 2, 4, 5])], [], 0)
def f_Md_cutAll : mm_F := fun args h => mm_ga [1] args (mm_gd 12 args h (mm_run p_Md_cutAll (mm_fu + 1) 0 args [] h))
set_option maxRecDepth 100000 in
theorem e_Md_cutAll_0 (f : Nat) (t : Nat) (h : mm_H) : mm_run p_Md_cutAll (f + 1) 0 [.ref t] [] h =
  (mm_gi 12 2 h t).bind fun x1 =>
  (mm_pf 12 3 (.int x1) h t).bind fun h2 =>
  (mm_pf 12 2 (.int 0) h2 t).bind fun h3 =>
  mm_run p_Md_cutAll f 17 [.ref t, .int 0, .int 0] [] h3 := rfl
theorem e_Md_cutAll (t : Nat) (h : mm_H) {fs : List Value} (hb : h t = some (.inr (12, fs))) : f_Md_cutAll [.ref t] h =
  (mm_gi 12 2 h t).bind fun x1 =>
  (mm_pf 12 3 (.int x1) h t).bind fun h2 =>
  (mm_pf 12 2 (.int 0) h2 t).bind fun h3 =>
  mm_run p_Md_cutAll mm_fu 17 [.ref t, .int 0, .int 0] [] h3 := (mm_ga_is rfl).trans ((mm_gd_is hb).trans (e_Md_cutAll_0 mm_fu t h))
set_option maxRecDepth 100000 in
theorem e_Md_cutAll_17 (f : Nat) (t : Nat) (v1 : Int32) (v2 : Int32) (h : mm_H) : mm_run p_Md_cutAll (f + 1) 17 [.ref t, .int v1, .int v2] [] h =
  (mm_gi 12 3 h t).bind fun x1 =>
  if v2 < x1 then
    (mm_gr 12 1 h t).bind fun r2 =>
    (mm_li h r2 v2).bind fun x3 =>
    if x3 = 10 then
      mm_run p_Md_cutAll f 17 [.ref t, .int v1, .int (v2 + 1)] [] h
    else
      if x3 = 32 then
        mm_run p_Md_cutAll f 17 [.ref t, .int v1, .int (v2 + 1)] [] h
      else
        (mm_gr 12 5 h t).bind fun r4 =>
        (mm_si h r4 v1 v2).bind fun h5 =>
        mm_ci (f_Md_isLetter [.int x3] h5) fun x7 h6 =>
        if x7 = 0 then
          mm_ci (f_Md_isDigit [.int x3] h6) fun x9 h8 =>
          if x9 = 0 then
            (mm_gr 12 4 h8 t).bind fun r10 =>
            mm_ci (f_Md_isSignOf [.int x3] h8) fun x12 h11 =>
            if x12 = 0 then
              (mm_si h11 r10 v1 4).bind fun h13 =>
              (mm_gr 12 6 h13 t).bind fun r14 =>
              (mm_sl h13 r14 v1 x3.toInt64).bind fun h15 =>
              mm_run p_Md_cutAll f 17 [.ref t, .int (v1 + 1), .int (v2 + 1)] [] h15
            else
              (mm_si h11 r10 v1 3).bind fun h16 =>
              (mm_gr 12 6 h16 t).bind fun r17 =>
              (mm_sl h16 r17 v1 x3.toInt64).bind fun h18 =>
              mm_run p_Md_cutAll f 17 [.ref t, .int (v1 + 1), .int (v2 + 1)] [] h18
          else
            mm_run p_Md_cutAll f 159 [.ref t, .int v1, .int v2, .int v2, .long (Int64.ofNat 0)] [] h8
        else
          mm_run p_Md_cutAll f 70 [.ref t, .int v1, .int v2, .int v2, .long (Int64.ofNat 0)] [] h6
  else
    (mm_gr 12 4 h t).bind fun r19 =>
    (mm_si h r19 v1 0).bind fun h20 =>
    (mm_gr 12 5 h20 t).bind fun r21 =>
    (mm_gi 12 3 h20 t).bind fun x22 =>
    (mm_si h20 r21 v1 x22).bind fun h23 =>
    (mm_pf 12 7 (.int 0) h23 t).bind fun h24 =>
    (mm_pf 12 8 (.int 0) h24 t).bind fun h25 =>
    some (none, h25) := rfl
set_option maxRecDepth 100000 in
theorem e_Md_cutAll_70 (f : Nat) (t : Nat) (v1 : Int32) (v2 : Int32) (v4 : Int32) (v5 : Int64) (h : mm_H) : mm_run p_Md_cutAll (f + 1) 70 [.ref t, .int v1, .int v2, .int v4, .long v5] [] h =
  (mm_gi 12 3 h t).bind fun x1 =>
  if v2 < x1 then
    (mm_gr 12 1 h t).bind fun r2 =>
    (mm_li h r2 v2).bind fun x3 =>
    mm_ci (f_Md_isLetter [.int x3] h) fun x5 h4 =>
    if x5 = 0 then
      (mm_gr 12 4 h4 t).bind fun r6 =>
      if (8 : Int32) < (v2 - v4) then
        (mm_si h4 r6 v1 4).bind fun h7 =>
        (mm_gr 12 6 h7 t).bind fun r8 =>
        (mm_sl h7 r8 v1 v5).bind fun h9 =>
        mm_run p_Md_cutAll f 17 [.ref t, .int (v1 + 1), .int v2] [] h9
      else
        (mm_si h4 r6 v1 1).bind fun h10 =>
        (mm_gr 12 6 h10 t).bind fun r11 =>
        (mm_sl h10 r11 v1 v5).bind fun h12 =>
        mm_run p_Md_cutAll f 17 [.ref t, .int (v1 + 1), .int v2] [] h12
    else
      if (v2 - v4) < 8 then
        (mm_gr 12 1 h4 t).bind fun r13 =>
        (mm_li h4 r13 v2).bind fun x14 =>
        mm_ci (f_Md_rank [.int x14] h4) fun x16 h15 =>
        mm_run p_Md_cutAll f 70 [.ref t, .int v1, .int (v2 + 1), .int v4, .long (((37 : Int64) * v5) + x16.toInt64)] [] h15
      else
        mm_run p_Md_cutAll f 70 [.ref t, .int v1, .int (v2 + 1), .int v4, .long v5] [] h4
  else
    (mm_gr 12 4 h t).bind fun r17 =>
    if (8 : Int32) < (v2 - v4) then
      (mm_si h r17 v1 4).bind fun h18 =>
      (mm_gr 12 6 h18 t).bind fun r19 =>
      (mm_sl h18 r19 v1 v5).bind fun h20 =>
      mm_run p_Md_cutAll f 17 [.ref t, .int (v1 + 1), .int v2] [] h20
    else
      (mm_si h r17 v1 1).bind fun h21 =>
      (mm_gr 12 6 h21 t).bind fun r22 =>
      (mm_sl h21 r22 v1 v5).bind fun h23 =>
      mm_run p_Md_cutAll f 17 [.ref t, .int (v1 + 1), .int v2] [] h23 := rfl
set_option maxRecDepth 100000 in
theorem e_Md_cutAll_159 (f : Nat) (t : Nat) (v1 : Int32) (v2 : Int32) (v4 : Int32) (v5 : Int64) (h : mm_H) : mm_run p_Md_cutAll (f + 1) 159 [.ref t, .int v1, .int v2, .int v4, .long v5] [] h =
  (mm_gi 12 3 h t).bind fun x1 =>
  if v2 < x1 then
    (mm_gr 12 1 h t).bind fun r2 =>
    (mm_li h r2 v2).bind fun x3 =>
    mm_ci (f_Md_isDigit [.int x3] h) fun x5 h4 =>
    if x5 = 0 then
      (mm_gr 12 4 h4 t).bind fun r6 =>
      if (4 : Int32) < (v2 - v4) then
        (mm_si h4 r6 v1 4).bind fun h7 =>
        (mm_gr 12 6 h7 t).bind fun r8 =>
        (mm_sl h7 r8 v1 v5).bind fun h9 =>
        mm_run p_Md_cutAll f 17 [.ref t, .int (v1 + 1), .int v2] [] h9
      else
        (mm_si h4 r6 v1 2).bind fun h10 =>
        (mm_gr 12 6 h10 t).bind fun r11 =>
        (mm_sl h10 r11 v1 v5).bind fun h12 =>
        mm_run p_Md_cutAll f 17 [.ref t, .int (v1 + 1), .int v2] [] h12
    else
      if (v2 - v4) < 4 then
        (mm_gr 12 1 h4 t).bind fun r13 =>
        (mm_li h4 r13 v2).bind fun x14 =>
        mm_run p_Md_cutAll f 159 [.ref t, .int v1, .int (v2 + 1), .int v4, .long ((((10 : Int64) * v5) + x14.toInt64) - (48 : Int64))] [] h4
      else
        mm_run p_Md_cutAll f 159 [.ref t, .int v1, .int (v2 + 1), .int v4, .long v5] [] h4
  else
    (mm_gr 12 4 h t).bind fun r15 =>
    if (4 : Int32) < (v2 - v4) then
      (mm_si h r15 v1 4).bind fun h16 =>
      (mm_gr 12 6 h16 t).bind fun r17 =>
      (mm_sl h16 r17 v1 v5).bind fun h18 =>
      mm_run p_Md_cutAll f 17 [.ref t, .int (v1 + 1), .int v2] [] h18
    else
      (mm_si h r15 v1 2).bind fun h19 =>
      (mm_gr 12 6 h19 t).bind fun r20 =>
      (mm_sl h19 r20 v1 v5).bind fun h21 =>
      mm_run p_Md_cutAll f 17 [.ref t, .int (v1 + 1), .int v2] [] h21 := rfl
set_option maxRecDepth 100000 in
theorem i_Md_cutAll (l : Launch) : mm_Imp l yX12_cutAll cX12_cutAll 7 none 3 f_Md_cutAll := mm_imp l (P := p_Md_cutAll) mm_cls_ok mm_sys_ok (by decide) (mm_Pok_of (List.forall_mem_cons.mpr ⟨k_X12_11, (List.forall_mem_cons.mpr ⟨k_X12_14, (List.forall_mem_cons.mpr ⟨k_X12_24, (List.forall_mem_cons.mpr ⟨k_X12_27, (List.forall_mem_cons.mpr ⟨k_X12_30, (List.forall_mem_cons.mpr ⟨k_X12_153, (List.forall_mem_cons.mpr ⟨k_X12_172, (List.forall_mem_cons.mpr ⟨k_X12_175, (fun _ h => absurd h List.not_mem_nil)⟩)⟩)⟩)⟩)⟩)⟩)⟩)⟩) (List.forall_mem_cons.mpr ⟨v_Md_isLetter l (Or.inl q_1925) (by decide), (List.forall_mem_cons.mpr ⟨v_Md_rank l (Or.inl q_1929) (by decide), (List.forall_mem_cons.mpr ⟨v_Md_isDigit l (Or.inl q_1932) (by decide), (List.forall_mem_cons.mpr ⟨v_Md_isSignOf l (Or.inl q_1937) (by decide), (fun _ h => absurd h List.not_mem_nil)⟩)⟩)⟩)⟩) (fun _ h => absurd h List.not_mem_nil) (List.forall_mem_cons.mpr ⟨q_1928, (List.forall_mem_cons.mpr ⟨q_1935, (List.forall_mem_cons.mpr ⟨q_1936, (fun _ h => absurd h List.not_mem_nil)⟩)⟩)⟩)) (by decide +kernel) rfl (cats := [1]) (fun as h r e => ⟨(mm_ga_inv e).1, (mm_gd_inv (mm_ga_inv e).2).1⟩) rfl (by decide)
theorem v_Md_cutAll (l : Launch) {own : String} {i n0 : Nat} (hl : Cond.methodLink own i yX12_cutAll ∈ mm_tbl) (hn : 4 ≤ n0) : mm_cok l own n0 i (0, 0, 0, f_Md_cutAll) := Or.inr (Or.inr ⟨rfl, yX12_cutAll, cX12_cutAll, 7, none, 3, 12, TX12, 27, i_Md_cutAll l, hn, by decide, by decide +kernel, rfl, fun _ _ _ e => (mm_gd_inv (mm_ga_inv e).2).2, hl, q_1923, q_74, q_179, q_1924⟩)
def p_Md_wrong : mm_P := ([(0, .aload_n 0, 1, 0), (1, .getfield 175, 3, 0), (4, .ifCond .ne 21, 3, 0), (7, .aload_n 0, 1, 0), (8, .iload_n 1, 1, 0), (9, .bipush 16, 2, 16), (11, .aload_n 0, 1, 0), (12, .getfield 27, 3, 0), (15, .aload_n 0, 1, 0), (16, .getfield 172, 3, 0), (19, .iaload, 1, 0), (20, .imul, 1, 0), (21, .iadd, 1, 0), (22, .putfield 175, 3, 0), (25, .return_, 1, 0)], [(27, 12, 5, 4), (172, 12, 7, 0), (175, 12, 8, 0)], [], [], [], [(0, [0, 1])], [], 0)
def f_Md_wrong : mm_F := fun args h => mm_ga [1, 1] args (mm_gd 12 args h (mm_run p_Md_wrong (mm_fu + 1) 0 args [] h))
set_option maxRecDepth 100000 in
theorem e_Md_wrong_0 (f : Nat) (t : Nat) (v1 : Int32) (h : mm_H) : mm_run p_Md_wrong (f + 1) 0 [.ref t, .int v1] [] h =
  (mm_gi 12 8 h t).bind fun x1 =>
  if x1 = 0 then
    (mm_gr 12 5 h t).bind fun r2 =>
    (mm_gi 12 7 h t).bind fun x3 =>
    (mm_li h r2 x3).bind fun x4 =>
    (mm_pf 12 8 (.int (v1 + (16 * x4))) h t).bind fun h5 =>
    some (none, h5)
  else
    some (none, h) := rfl
theorem e_Md_wrong (t : Nat) (v1 : Int32) (h : mm_H) {fs : List Value} (hb : h t = some (.inr (12, fs))) : f_Md_wrong [.ref t, .int v1] h =
  (mm_gi 12 8 h t).bind fun x1 =>
  if x1 = 0 then
    (mm_gr 12 5 h t).bind fun r2 =>
    (mm_gi 12 7 h t).bind fun x3 =>
    (mm_li h r2 x3).bind fun x4 =>
    (mm_pf 12 8 (.int (v1 + (16 * x4))) h t).bind fun h5 =>
    some (none, h5)
  else
    some (none, h) := (mm_ga_is rfl).trans ((mm_gd_is hb).trans (e_Md_wrong_0 mm_fu t v1 h))
set_option maxRecDepth 100000 in
theorem i_Md_wrong (l : Launch) : mm_Imp l yX12_wrong cX12_wrong 2 none 1 f_Md_wrong := mm_imp l (P := p_Md_wrong) mm_cls_ok mm_sys_ok (by decide) (mm_Pok_of (List.forall_mem_cons.mpr ⟨k_X12_27, (List.forall_mem_cons.mpr ⟨k_X12_172, (List.forall_mem_cons.mpr ⟨k_X12_175, (fun _ h => absurd h List.not_mem_nil)⟩)⟩)⟩) (fun _ h => absurd h List.not_mem_nil) (fun _ h => absurd h List.not_mem_nil) (fun _ h => absurd h List.not_mem_nil)) (by decide +kernel) rfl (cats := [1, 1]) (fun as h r e => ⟨(mm_ga_inv e).1, (mm_gd_inv (mm_ga_inv e).2).1⟩) rfl (by decide)
theorem v_Md_wrong (l : Launch) {own : String} {i n0 : Nat} (hl : Cond.methodLink own i yX12_wrong ∈ mm_tbl) (hn : 2 ≤ n0) : mm_cok l own n0 i (0, 1, 0, f_Md_wrong) := Or.inr (Or.inr ⟨rfl, yX12_wrong, cX12_wrong, 2, none, 1, 12, TX12, 27, i_Md_wrong l, hn, by decide, by decide +kernel, rfl, fun _ _ _ e => (mm_gd_inv (mm_ga_inv e).2).2, hl, q_1958, q_79, q_179, q_1959⟩)
def p_Md_isSign : mm_P := ([(0, .aload_n 0, 1, 0), (1, .getfield 175, 3, 0), (4, .ifCond .ne 35, 3, 0), (7, .aload_n 0, 1, 0), (8, .getfield 24, 3, 0), (11, .aload_n 0, 1, 0), (12, .getfield 172, 3, 0), (15, .iaload, 1, 0), (16, .iconst 3, 1, 3), (17, .if_icmp .ne 22, 3, 0), (20, .aload_n 0, 1, 0), (21, .getfield 30, 3, 0), (24, .aload_n 0, 1, 0), (25, .getfield 172, 3, 0), (28, .laload, 1, 0), (29, .iload_n 1, 1, 0), (30, .i2l, 1, 0), (31, .lcmp, 1, 0), (32, .ifCond .ne 7, 3, 0), (35, .iconst 1, 1, 1), (36, .goto 4, 3, 0), (39, .iconst 0, 1, 0), (40, .ireturn, 1, 0)], [(24, 12, 4, 4), (30, 12, 6, 4), (172, 12, 7, 0), (175, 12, 8, 0)], [], [], [], [(0, [0, 1])], [], 1)
def f_Md_isSign : mm_F := fun args h => mm_ga [1, 1] args (mm_gd 12 args h (mm_run p_Md_isSign (mm_fu + 1) 0 args [] h))
set_option maxRecDepth 100000 in
theorem e_Md_isSign_0 (f : Nat) (t : Nat) (v1 : Int32) (h : mm_H) : mm_run p_Md_isSign (f + 1) 0 [.ref t, .int v1] [] h =
  (mm_gi 12 8 h t).bind fun x1 =>
  if x1 = 0 then
    (mm_gr 12 4 h t).bind fun r2 =>
    (mm_gi 12 7 h t).bind fun x3 =>
    (mm_li h r2 x3).bind fun x4 =>
    if x4 = 3 then
      (mm_gr 12 6 h t).bind fun r5 =>
      (mm_gi 12 7 h t).bind fun x6 =>
      (mm_ll h r5 x6).bind fun l7 =>
      if (lg_cmp l7 v1.toInt64) = 0 then
        some (some (.int 1), h)
      else
        some (some (.int 0), h)
    else
      some (some (.int 0), h)
  else
    some (some (.int 0), h) := rfl
theorem e_Md_isSign (t : Nat) (v1 : Int32) (h : mm_H) {fs : List Value} (hb : h t = some (.inr (12, fs))) : f_Md_isSign [.ref t, .int v1] h =
  (mm_gi 12 8 h t).bind fun x1 =>
  if x1 = 0 then
    (mm_gr 12 4 h t).bind fun r2 =>
    (mm_gi 12 7 h t).bind fun x3 =>
    (mm_li h r2 x3).bind fun x4 =>
    if x4 = 3 then
      (mm_gr 12 6 h t).bind fun r5 =>
      (mm_gi 12 7 h t).bind fun x6 =>
      (mm_ll h r5 x6).bind fun l7 =>
      if (lg_cmp l7 v1.toInt64) = 0 then
        some (some (.int 1), h)
      else
        some (some (.int 0), h)
    else
      some (some (.int 0), h)
  else
    some (some (.int 0), h) := (mm_ga_is rfl).trans ((mm_gd_is hb).trans (e_Md_isSign_0 mm_fu t v1 h))
set_option maxRecDepth 100000 in
theorem i_Md_isSign (l : Launch) : mm_Imp l yX12_isSign cX12_isSign 2 (some .boolean) 1 f_Md_isSign := mm_imp l (P := p_Md_isSign) mm_cls_ok mm_sys_ok (by decide) (mm_Pok_of (List.forall_mem_cons.mpr ⟨k_X12_24, (List.forall_mem_cons.mpr ⟨k_X12_30, (List.forall_mem_cons.mpr ⟨k_X12_172, (List.forall_mem_cons.mpr ⟨k_X12_175, (fun _ h => absurd h List.not_mem_nil)⟩)⟩)⟩)⟩) (fun _ h => absurd h List.not_mem_nil) (fun _ h => absurd h List.not_mem_nil) (fun _ h => absurd h List.not_mem_nil)) (by decide +kernel) rfl (cats := [1, 1]) (fun as h r e => ⟨(mm_ga_inv e).1, (mm_gd_inv (mm_ga_inv e).2).1⟩) rfl (by decide)
theorem v_Md_isSign (l : Launch) {own : String} {i n0 : Nat} (hl : Cond.methodLink own i yX12_isSign ∈ mm_tbl) (hn : 2 ≤ n0) : mm_cok l own n0 i (0, 1, 1, f_Md_isSign) := Or.inr (Or.inr ⟨rfl, yX12_isSign, cX12_isSign, 2, (some .boolean), 1, 12, TX12, 27, i_Md_isSign l, hn, by decide, by decide +kernel, rfl, fun _ _ _ e => (mm_gd_inv (mm_ga_inv e).2).2, hl, q_2037, q_98, q_179, q_2038⟩)
def p_Md_isWord : mm_P := ([(0, .aload_n 0, 1, 0), (1, .getfield 175, 3, 0), (4, .ifCond .ne 39, 3, 0), (7, .aload_n 0, 1, 0), (8, .getfield 24, 3, 0), (11, .aload_n 0, 1, 0), (12, .getfield 172, 3, 0), (15, .iaload, 1, 0), (16, .iconst 1, 1, 1), (17, .if_icmp .ne 26, 3, 0), (20, .aload_n 0, 1, 0), (21, .getfield 30, 3, 0), (24, .aload_n 0, 1, 0), (25, .getfield 172, 3, 0), (28, .laload, 1, 0), (29, .aload_n 0, 1, 0), (30, .getfield 108, 3, 0), (33, .iload_n 1, 1, 0), (34, .laload, 1, 0), (35, .lcmp, 1, 0), (36, .ifCond .ne 7, 3, 0), (39, .iconst 1, 1, 1), (40, .goto 4, 3, 0), (43, .iconst 0, 1, 0), (44, .ireturn, 1, 0)], [(24, 12, 4, 4), (30, 12, 6, 4), (108, 12, 9, 4), (172, 12, 7, 0), (175, 12, 8, 0)], [], [], [], [(0, [0, 1])], [], 1)
def f_Md_isWord : mm_F := fun args h => mm_ga [1, 1] args (mm_gd 12 args h (mm_run p_Md_isWord (mm_fu + 1) 0 args [] h))
set_option maxRecDepth 100000 in
theorem e_Md_isWord_0 (f : Nat) (t : Nat) (v1 : Int32) (h : mm_H) : mm_run p_Md_isWord (f + 1) 0 [.ref t, .int v1] [] h =
  (mm_gi 12 8 h t).bind fun x1 =>
  if x1 = 0 then
    (mm_gr 12 4 h t).bind fun r2 =>
    (mm_gi 12 7 h t).bind fun x3 =>
    (mm_li h r2 x3).bind fun x4 =>
    if x4 = 1 then
      (mm_gr 12 6 h t).bind fun r5 =>
      (mm_gi 12 7 h t).bind fun x6 =>
      (mm_ll h r5 x6).bind fun l7 =>
      (mm_gr 12 9 h t).bind fun r8 =>
      (mm_ll h r8 v1).bind fun l9 =>
      if (lg_cmp l7 l9) = 0 then
        some (some (.int 1), h)
      else
        some (some (.int 0), h)
    else
      some (some (.int 0), h)
  else
    some (some (.int 0), h) := rfl
theorem e_Md_isWord (t : Nat) (v1 : Int32) (h : mm_H) {fs : List Value} (hb : h t = some (.inr (12, fs))) : f_Md_isWord [.ref t, .int v1] h =
  (mm_gi 12 8 h t).bind fun x1 =>
  if x1 = 0 then
    (mm_gr 12 4 h t).bind fun r2 =>
    (mm_gi 12 7 h t).bind fun x3 =>
    (mm_li h r2 x3).bind fun x4 =>
    if x4 = 1 then
      (mm_gr 12 6 h t).bind fun r5 =>
      (mm_gi 12 7 h t).bind fun x6 =>
      (mm_ll h r5 x6).bind fun l7 =>
      (mm_gr 12 9 h t).bind fun r8 =>
      (mm_ll h r8 v1).bind fun l9 =>
      if (lg_cmp l7 l9) = 0 then
        some (some (.int 1), h)
      else
        some (some (.int 0), h)
    else
      some (some (.int 0), h)
  else
    some (some (.int 0), h) := (mm_ga_is rfl).trans ((mm_gd_is hb).trans (e_Md_isWord_0 mm_fu t v1 h))
set_option maxRecDepth 100000 in
theorem i_Md_isWord (l : Launch) : mm_Imp l yX12_isWord cX12_isWord 2 (some .boolean) 1 f_Md_isWord := mm_imp l (P := p_Md_isWord) mm_cls_ok mm_sys_ok (by decide) (mm_Pok_of (List.forall_mem_cons.mpr ⟨k_X12_24, (List.forall_mem_cons.mpr ⟨k_X12_30, (List.forall_mem_cons.mpr ⟨k_X12_108, (List.forall_mem_cons.mpr ⟨k_X12_172, (List.forall_mem_cons.mpr ⟨k_X12_175, (fun _ h => absurd h List.not_mem_nil)⟩)⟩)⟩)⟩)⟩) (fun _ h => absurd h List.not_mem_nil) (fun _ h => absurd h List.not_mem_nil) (fun _ h => absurd h List.not_mem_nil)) (by decide +kernel) rfl (cats := [1, 1]) (fun as h r e => ⟨(mm_ga_inv e).1, (mm_gd_inv (mm_ga_inv e).2).1⟩) rfl (by decide)
theorem v_Md_isWord (l : Launch) {own : String} {i n0 : Nat} (hl : Cond.methodLink own i yX12_isWord ∈ mm_tbl) (hn : 2 ≤ n0) : mm_cok l own n0 i (0, 1, 1, f_Md_isWord) := Or.inr (Or.inr ⟨rfl, yX12_isWord, cX12_isWord, 2, (some .boolean), 1, 12, TX12, 27, i_Md_isWord l, hn, by decide, by decide +kernel, rfl, fun _ _ _ e => (mm_gd_inv (mm_ga_inv e).2).2, hl, q_1950, q_77, q_179, q_1951⟩)
def p_Md_takeSign : mm_P := ([(0, .aload_n 0, 1, 0), (1, .iload_n 1, 1, 0), (2, .invokevirtual 178, 3, 0), (5, .ifCond .eq 16, 3, 0), (8, .aload_n 0, 1, 0), (9, .dup, 1, 0), (10, .getfield 172, 3, 0), (13, .iconst 1, 1, 1), (14, .iadd, 1, 0), (15, .putfield 172, 3, 0), (18, .goto 8, 3, 0), (21, .aload_n 0, 1, 0), (22, .iconst 1, 1, 1), (23, .invokevirtual 181, 3, 0), (26, .return_, 1, 0)], [(172, 12, 7, 0)], [(178, 0, 1, 1, f_Md_isSign), (181, 0, 1, 0, f_Md_wrong)], [], [], [(0, [0, 1])], [], 0)
def f_Md_takeSign : mm_F := fun args h => mm_ga [1, 1] args (mm_gd 12 args h (mm_run p_Md_takeSign (mm_fu + 1) 0 args [] h))
set_option maxRecDepth 100000 in
theorem e_Md_takeSign_0 (f : Nat) (t : Nat) (v1 : Int32) (h : mm_H) : mm_run p_Md_takeSign (f + 1) 0 [.ref t, .int v1] [] h =
  mm_ci (f_Md_isSign [.ref t, .int v1] h) fun x2 h1 =>
  if x2 = 0 then
    mm_cv (f_Md_wrong [.ref t, .int 1] h1) fun h3 =>
    some (none, h3)
  else
    (mm_gi 12 7 h1 t).bind fun x4 =>
    (mm_pf 12 7 (.int (x4 + 1)) h1 t).bind fun h5 =>
    some (none, h5) := rfl
theorem e_Md_takeSign (t : Nat) (v1 : Int32) (h : mm_H) {fs : List Value} (hb : h t = some (.inr (12, fs))) : f_Md_takeSign [.ref t, .int v1] h =
  mm_ci (f_Md_isSign [.ref t, .int v1] h) fun x2 h1 =>
  if x2 = 0 then
    mm_cv (f_Md_wrong [.ref t, .int 1] h1) fun h3 =>
    some (none, h3)
  else
    (mm_gi 12 7 h1 t).bind fun x4 =>
    (mm_pf 12 7 (.int (x4 + 1)) h1 t).bind fun h5 =>
    some (none, h5) := (mm_ga_is rfl).trans ((mm_gd_is hb).trans (e_Md_takeSign_0 mm_fu t v1 h))
set_option maxRecDepth 100000 in
theorem i_Md_takeSign (l : Launch) : mm_Imp l yX12_takeSign cX12_takeSign 2 none 2 f_Md_takeSign := mm_imp l (P := p_Md_takeSign) mm_cls_ok mm_sys_ok (by decide) (mm_Pok_of (List.forall_mem_cons.mpr ⟨k_X12_172, (fun _ h => absurd h List.not_mem_nil)⟩) (List.forall_mem_cons.mpr ⟨v_Md_isSign l q_2035 (by decide), (List.forall_mem_cons.mpr ⟨v_Md_wrong l q_1956 (by decide), (fun _ h => absurd h List.not_mem_nil)⟩)⟩) (fun _ h => absurd h List.not_mem_nil) (fun _ h => absurd h List.not_mem_nil)) (by decide +kernel) rfl (cats := [1, 1]) (fun as h r e => ⟨(mm_ga_inv e).1, (mm_gd_inv (mm_ga_inv e).2).1⟩) rfl (by decide)
theorem v_Md_takeSign (l : Launch) {own : String} {i n0 : Nat} (hl : Cond.methodLink own i yX12_takeSign ∈ mm_tbl) (hn : 3 ≤ n0) : mm_cok l own n0 i (0, 1, 0, f_Md_takeSign) := Or.inr (Or.inr ⟨rfl, yX12_takeSign, cX12_takeSign, 2, none, 2, 12, TX12, 27, i_Md_takeSign l, hn, by decide, by decide +kernel, rfl, fun _ _ _ e => (mm_gd_inv (mm_ga_inv e).2).2, hl, q_2033, q_97, q_179, q_2034⟩)
def p_Md_hasWord : mm_P := ([(0, .aload_n 0, 1, 0), (1, .iload_n 1, 1, 0), (2, .invokevirtual 184, 3, 0), (5, .istore_n 2, 1, 0), (6, .aload_n 0, 1, 0), (7, .dup, 1, 0), (8, .getfield 172, 3, 0), (11, .iload_n 2, 1, 0), (12, .ifCond .eq 7, 3, 0), (15, .iconst 1, 1, 1), (16, .goto 4, 3, 0), (19, .iconst 0, 1, 0), (20, .iadd, 1, 0), (21, .putfield 172, 3, 0), (24, .iload_n 2, 1, 0), (25, .ireturn, 1, 0)], [(172, 12, 7, 0)], [(184, 0, 1, 1, f_Md_isWord)], [], [], [(0, [0, 1])], [], 1)
def f_Md_hasWord : mm_F := fun args h => mm_ga [1, 1] args (mm_gd 12 args h (mm_run p_Md_hasWord (mm_fu + 1) 0 args [] h))
set_option maxRecDepth 100000 in
theorem e_Md_hasWord_0 (f : Nat) (t : Nat) (v1 : Int32) (h : mm_H) : mm_run p_Md_hasWord (f + 1) 0 [.ref t, .int v1] [] h =
  mm_ci (f_Md_isWord [.ref t, .int v1] h) fun x2 h1 =>
  (mm_gi 12 7 h1 t).bind fun x3 =>
  if x2 = 0 then
    (mm_pf 12 7 (.int (x3 + 0)) h1 t).bind fun h4 =>
    if x2 = 0 ∨ x2 = 1 then some (some (.int x2), h4) else none
  else
    (mm_pf 12 7 (.int (x3 + 1)) h1 t).bind fun h5 =>
    if x2 = 0 ∨ x2 = 1 then some (some (.int x2), h5) else none := rfl
theorem e_Md_hasWord (t : Nat) (v1 : Int32) (h : mm_H) {fs : List Value} (hb : h t = some (.inr (12, fs))) : f_Md_hasWord [.ref t, .int v1] h =
  mm_ci (f_Md_isWord [.ref t, .int v1] h) fun x2 h1 =>
  (mm_gi 12 7 h1 t).bind fun x3 =>
  if x2 = 0 then
    (mm_pf 12 7 (.int (x3 + 0)) h1 t).bind fun h4 =>
    if x2 = 0 ∨ x2 = 1 then some (some (.int x2), h4) else none
  else
    (mm_pf 12 7 (.int (x3 + 1)) h1 t).bind fun h5 =>
    if x2 = 0 ∨ x2 = 1 then some (some (.int x2), h5) else none := (mm_ga_is rfl).trans ((mm_gd_is hb).trans (e_Md_hasWord_0 mm_fu t v1 h))
set_option maxRecDepth 100000 in
theorem i_Md_hasWord (l : Launch) : mm_Imp l yX12_hasWord cX12_hasWord 3 (some .boolean) 2 f_Md_hasWord := mm_imp l (P := p_Md_hasWord) mm_cls_ok mm_sys_ok (by decide) (mm_Pok_of (List.forall_mem_cons.mpr ⟨k_X12_172, (fun _ h => absurd h List.not_mem_nil)⟩) (List.forall_mem_cons.mpr ⟨v_Md_isWord l q_1948 (by decide), (fun _ h => absurd h List.not_mem_nil)⟩) (fun _ h => absurd h List.not_mem_nil) (fun _ h => absurd h List.not_mem_nil)) (by decide +kernel) rfl (cats := [1, 1]) (fun as h r e => ⟨(mm_ga_inv e).1, (mm_gd_inv (mm_ga_inv e).2).1⟩) rfl (by decide)
theorem v_Md_hasWord (l : Launch) {own : String} {i n0 : Nat} (hl : Cond.methodLink own i yX12_hasWord ∈ mm_tbl) (hn : 3 ≤ n0) : mm_cok l own n0 i (0, 1, 1, f_Md_hasWord) := Or.inr (Or.inr ⟨rfl, yX12_hasWord, cX12_hasWord, 3, (some .boolean), 2, 12, TX12, 27, i_Md_hasWord l, hn, by decide, by decide +kernel, rfl, fun _ _ _ e => (mm_gd_inv (mm_ga_inv e).2).2, hl, q_1994, q_88, q_179, q_1995⟩)
def p_Md_takeWord : mm_P := ([(0, .aload_n 0, 1, 0), (1, .iload_n 1, 1, 0), (2, .invokevirtual 187, 3, 0), (5, .ifCond .ne 8, 3, 0), (8, .aload_n 0, 1, 0), (9, .iconst 1, 1, 1), (10, .invokevirtual 181, 3, 0), (13, .return_, 1, 0)], [], [(181, 0, 1, 0, f_Md_wrong), (187, 0, 1, 1, f_Md_hasWord)], [], [], [(0, [0, 1])], [], 0)
def f_Md_takeWord : mm_F := fun args h => mm_ga [1, 1] args (mm_gd 12 args h (mm_run p_Md_takeWord (mm_fu + 1) 0 args [] h))
set_option maxRecDepth 100000 in
theorem e_Md_takeWord_0 (f : Nat) (t : Nat) (v1 : Int32) (h : mm_H) : mm_run p_Md_takeWord (f + 1) 0 [.ref t, .int v1] [] h =
  mm_ci (f_Md_hasWord [.ref t, .int v1] h) fun x2 h1 =>
  if x2 = 0 then
    mm_cv (f_Md_wrong [.ref t, .int 1] h1) fun h3 =>
    some (none, h3)
  else
    some (none, h1) := rfl
theorem e_Md_takeWord (t : Nat) (v1 : Int32) (h : mm_H) {fs : List Value} (hb : h t = some (.inr (12, fs))) : f_Md_takeWord [.ref t, .int v1] h =
  mm_ci (f_Md_hasWord [.ref t, .int v1] h) fun x2 h1 =>
  if x2 = 0 then
    mm_cv (f_Md_wrong [.ref t, .int 1] h1) fun h3 =>
    some (none, h3)
  else
    some (none, h1) := (mm_ga_is rfl).trans ((mm_gd_is hb).trans (e_Md_takeWord_0 mm_fu t v1 h))
set_option maxRecDepth 100000 in
theorem i_Md_takeWord (l : Launch) : mm_Imp l yX12_takeWord cX12_takeWord 2 none 3 f_Md_takeWord := mm_imp l (P := p_Md_takeWord) mm_cls_ok mm_sys_ok (by decide) (mm_Pok_of (fun _ h => absurd h List.not_mem_nil) (List.forall_mem_cons.mpr ⟨v_Md_wrong l q_1956 (by decide), (List.forall_mem_cons.mpr ⟨v_Md_hasWord l q_1992 (by decide), (fun _ h => absurd h List.not_mem_nil)⟩)⟩) (fun _ h => absurd h List.not_mem_nil) (fun _ h => absurd h List.not_mem_nil)) (by decide +kernel) rfl (cats := [1, 1]) (fun as h r e => ⟨(mm_ga_inv e).1, (mm_gd_inv (mm_ga_inv e).2).1⟩) rfl (by decide)
theorem v_Md_takeWord (l : Launch) {own : String} {i n0 : Nat} (hl : Cond.methodLink own i yX12_takeWord ∈ mm_tbl) (hn : 4 ≤ n0) : mm_cok l own n0 i (0, 1, 0, f_Md_takeWord) := Or.inr (Or.inr ⟨rfl, yX12_takeWord, cX12_takeWord, 2, none, 3, 12, TX12, 27, i_Md_takeWord l, hn, by decide, by decide +kernel, rfl, fun _ _ _ e => (mm_gd_inv (mm_ga_inv e).2).2, hl, q_1990, q_87, q_179, q_1991⟩)
def p_Md_packed : mm_P := ([(0, .iload_n 0, 1, 0), (1, .sipush 1000, 3, 1000), (4, .iload_n 1, 1, 0), (5, .imul, 1, 0), (6, .iadd, 1, 0), (7, .ldc 190, 2, 0), (9, .iload_n 2, 1, 0), (10, .imul, 1, 0), (11, .iadd, 1, 0), (12, .ireturn, 1, 0)], [], [], [(190, 1000000)], [], [(0, [0, 1, 2])], [], 2)
def f_Md_packed : mm_F := fun args h => mm_ga [1, 1, 1] args (mm_run p_Md_packed (mm_fu + 1) 0 args [] h)
set_option maxRecDepth 100000 in
theorem e_Md_packed_0 (f : Nat) (v0 : Int32) (v1 : Int32) (v2 : Int32) (h : mm_H) : mm_run p_Md_packed (f + 1) 0 [.int v0, .int v1, .int v2] [] h =
  some (some (.int ((v0 + (1000 * v1)) + (1000000 * v2))), h) := rfl
theorem e_Md_packed (v0 : Int32) (v1 : Int32) (v2 : Int32) (h : mm_H) : f_Md_packed [.int v0, .int v1, .int v2] h =
  some (some (.int ((v0 + (1000 * v1)) + (1000000 * v2))), h) := (mm_ga_is rfl).trans (e_Md_packed_0 mm_fu v0 v1 v2 h)
set_option maxRecDepth 100000 in
theorem i_Md_packed (l : Launch) : mm_Imp l yX12_packed cX12_packed 3 (some .int) 1 f_Md_packed := mm_imp l (P := p_Md_packed) mm_cls_ok mm_sys_ok (by decide) (mm_Pok_of (fun _ h => absurd h List.not_mem_nil) (fun _ h => absurd h List.not_mem_nil) (List.forall_mem_cons.mpr ⟨q_1768, (fun _ h => absurd h List.not_mem_nil)⟩) (fun _ h => absurd h List.not_mem_nil)) (by decide +kernel) rfl (cats := [1, 1, 1]) (fun as h r e => ⟨(mm_ga_inv e).1, (mm_ga_inv e).2⟩) rfl (by decide)
theorem v_Md_packed (l : Launch) {own : String} {i n0 : Nat} (hl : Cond.methodLink own i yX12_packed ∈ mm_tbl ∨ ∃ host, Cond.methodLinkNest own i yX12_packed host ∈ mm_nest) (hn : 2 ≤ n0) : mm_cok l own n0 i (1, 3, 1, f_Md_packed) := Or.inr (Or.inl ⟨rfl, yX12_packed, cX12_packed, 3, (some .int), 1, i_Md_packed l, hn, by decide, by decide +kernel, hl, q_2005, q_179, q_2006⟩)
def p_Md_takeNumber : mm_P := ([(0, .aload_n 0, 1, 0), (1, .getfield 175, 3, 0), (4, .ifCond .ne 24, 3, 0), (7, .aload_n 0, 1, 0), (8, .getfield 24, 3, 0), (11, .aload_n 0, 1, 0), (12, .getfield 172, 3, 0), (15, .iaload, 1, 0), (16, .iconst 2, 1, 2), (17, .if_icmp .eq 11, 3, 0), (20, .aload_n 0, 1, 0), (21, .iconst 1, 1, 1), (22, .invokevirtual 181, 3, 0), (25, .goto 45, 3, 0), (28, .aload_n 0, 1, 0), (29, .getfield 175, 3, 0), (32, .ifCond .ne 38, 3, 0), (35, .aload_n 0, 1, 0), (36, .getfield 30, 3, 0), (39, .aload_n 0, 1, 0), (40, .getfield 172, 3, 0), (43, .laload, 1, 0), (44, .iload_n 1, 1, 0), (45, .i2l, 1, 0), (46, .lcmp, 1, 0), (47, .ifCond .lt 18, 3, 0), (50, .aload_n 0, 1, 0), (51, .getfield 30, 3, 0), (54, .aload_n 0, 1, 0), (55, .getfield 172, 3, 0), (58, .laload, 1, 0), (59, .iload_n 2, 1, 0), (60, .i2l, 1, 0), (61, .lcmp, 1, 0), (62, .ifCond .le 8, 3, 0), (65, .aload_n 0, 1, 0), (66, .iconst 4, 1, 4), (67, .invokevirtual 181, 3, 0), (70, .aload_n 0, 1, 0), (71, .getfield 175, 3, 0), (74, .ifCond .le 5, 3, 0), (77, .iconst 0, 1, 0), (78, .ireturn, 1, 0), (79, .aload_n 0, 1, 0), (80, .dup, 1, 0), (81, .getfield 172, 3, 0), (84, .iconst 1, 1, 1), (85, .iadd, 1, 0), (86, .putfield 172, 3, 0), (89, .aload_n 0, 1, 0), (90, .getfield 30, 3, 0), (93, .aload_n 0, 1, 0), (94, .getfield 172, 3, 0), (97, .iconst 1, 1, 1), (98, .isub, 1, 0), (99, .laload, 1, 0), (100, .l2i, 1, 0), (101, .ireturn, 1, 0)], [(24, 12, 4, 4), (30, 12, 6, 4), (172, 12, 7, 0), (175, 12, 8, 0)], [(181, 0, 1, 0, f_Md_wrong)], [], [], [(0, [0, 1, 2]), (28, [0, 1, 2]), (70, [0])], [], 2)
def f_Md_takeNumber : mm_F := fun args h => mm_ga [1, 1, 1] args (mm_gd 12 args h (mm_run p_Md_takeNumber (mm_fu + 1) 0 args [] h))
set_option maxRecDepth 100000 in
theorem e_Md_takeNumber_0 (f : Nat) (t : Nat) (v1 : Int32) (v2 : Int32) (h : mm_H) : mm_run p_Md_takeNumber (f + 1) 0 [.ref t, .int v1, .int v2] [] h =
  (mm_gi 12 8 h t).bind fun x1 =>
  if x1 = 0 then
    (mm_gr 12 4 h t).bind fun r2 =>
    (mm_gi 12 7 h t).bind fun x3 =>
    (mm_li h r2 x3).bind fun x4 =>
    if x4 = 2 then
      mm_run p_Md_takeNumber f 28 [.ref t, .int v1, .int v2] [] h
    else
      mm_cv (f_Md_wrong [.ref t, .int 1] h) fun h5 =>
      mm_run p_Md_takeNumber f 70 [.ref t] [] h5
  else
    mm_run p_Md_takeNumber f 28 [.ref t, .int v1, .int v2] [] h := rfl
theorem e_Md_takeNumber (t : Nat) (v1 : Int32) (v2 : Int32) (h : mm_H) {fs : List Value} (hb : h t = some (.inr (12, fs))) : f_Md_takeNumber [.ref t, .int v1, .int v2] h =
  (mm_gi 12 8 h t).bind fun x1 =>
  if x1 = 0 then
    (mm_gr 12 4 h t).bind fun r2 =>
    (mm_gi 12 7 h t).bind fun x3 =>
    (mm_li h r2 x3).bind fun x4 =>
    if x4 = 2 then
      mm_run p_Md_takeNumber mm_fu 28 [.ref t, .int v1, .int v2] [] h
    else
      mm_cv (f_Md_wrong [.ref t, .int 1] h) fun h5 =>
      mm_run p_Md_takeNumber mm_fu 70 [.ref t] [] h5
  else
    mm_run p_Md_takeNumber mm_fu 28 [.ref t, .int v1, .int v2] [] h := (mm_ga_is rfl).trans ((mm_gd_is hb).trans (e_Md_takeNumber_0 mm_fu t v1 v2 h))
set_option maxRecDepth 100000 in
theorem e_Md_takeNumber_28 (f : Nat) (t : Nat) (v1 : Int32) (v2 : Int32) (h : mm_H) : mm_run p_Md_takeNumber (f + 1) 28 [.ref t, .int v1, .int v2] [] h =
  (mm_gi 12 8 h t).bind fun x1 =>
  if x1 = 0 then
    (mm_gr 12 6 h t).bind fun r2 =>
    (mm_gi 12 7 h t).bind fun x3 =>
    (mm_ll h r2 x3).bind fun l4 =>
    if (lg_cmp l4 v1.toInt64) < 0 then
      mm_cv (f_Md_wrong [.ref t, .int 4] h) fun h5 =>
      mm_run p_Md_takeNumber f 70 [.ref t] [] h5
    else
      (mm_gr 12 6 h t).bind fun r6 =>
      (mm_gi 12 7 h t).bind fun x7 =>
      (mm_ll h r6 x7).bind fun l8 =>
      if (0 : Int32) < (lg_cmp l8 v2.toInt64) then
        mm_cv (f_Md_wrong [.ref t, .int 4] h) fun h9 =>
        mm_run p_Md_takeNumber f 70 [.ref t] [] h9
      else
        mm_run p_Md_takeNumber f 70 [.ref t] [] h
  else
    mm_run p_Md_takeNumber f 70 [.ref t] [] h := rfl
set_option maxRecDepth 100000 in
theorem e_Md_takeNumber_70 (f : Nat) (t : Nat) (h : mm_H) : mm_run p_Md_takeNumber (f + 1) 70 [.ref t] [] h =
  (mm_gi 12 8 h t).bind fun x1 =>
  if (0 : Int32) < x1 then
    some (some (.int 0), h)
  else
    (mm_gi 12 7 h t).bind fun x2 =>
    (mm_pf 12 7 (.int (x2 + 1)) h t).bind fun h3 =>
    (mm_gr 12 6 h3 t).bind fun r4 =>
    (mm_gi 12 7 h3 t).bind fun x5 =>
    (mm_ll h3 r4 (x5 - 1)).bind fun l6 =>
    some (some (.int l6.toInt32), h3) := rfl
set_option maxRecDepth 100000 in
theorem i_Md_takeNumber (l : Launch) : mm_Imp l yX12_takeNumber cX12_takeNumber 3 (some .int) 2 f_Md_takeNumber := mm_imp l (P := p_Md_takeNumber) mm_cls_ok mm_sys_ok (by decide) (mm_Pok_of (List.forall_mem_cons.mpr ⟨k_X12_24, (List.forall_mem_cons.mpr ⟨k_X12_30, (List.forall_mem_cons.mpr ⟨k_X12_172, (List.forall_mem_cons.mpr ⟨k_X12_175, (fun _ h => absurd h List.not_mem_nil)⟩)⟩)⟩)⟩) (List.forall_mem_cons.mpr ⟨v_Md_wrong l q_1956 (by decide), (fun _ h => absurd h List.not_mem_nil)⟩) (fun _ h => absurd h List.not_mem_nil) (fun _ h => absurd h List.not_mem_nil)) (by decide +kernel) rfl (cats := [1, 1, 1]) (fun as h r e => ⟨(mm_ga_inv e).1, (mm_gd_inv (mm_ga_inv e).2).1⟩) rfl (by decide)
theorem v_Md_takeNumber (l : Launch) {own : String} {i n0 : Nat} (hl : Cond.methodLink own i yX12_takeNumber ∈ mm_tbl) (hn : 3 ≤ n0) : mm_cok l own n0 i (0, 2, 1, f_Md_takeNumber) := Or.inr (Or.inr ⟨rfl, yX12_takeNumber, cX12_takeNumber, 3, (some .int), 2, 12, TX12, 27, i_Md_takeNumber l, hn, by decide, by decide +kernel, rfl, fun _ _ _ e => (mm_gd_inv (mm_ga_inv e).2).2, hl, q_1970, q_82, q_179, q_1971⟩)
def p_Md_takeAfter : mm_P := ([(0, .aload_n 0, 1, 0), (1, .iload_n 1, 1, 0), (2, .invokevirtual 191, 3, 0), (5, .aload_n 0, 1, 0), (6, .iload_n 2, 1, 0), (7, .iload_n 3, 1, 0), (8, .invokevirtual 194, 3, 0), (11, .ireturn, 1, 0)], [], [(191, 0, 1, 0, f_Md_takeWord), (194, 0, 2, 1, f_Md_takeNumber)], [], [], [(0, [0, 1, 2, 3])], [], 2)
def f_Md_takeAfter : mm_F := fun args h => mm_ga [1, 1, 1, 1] args (mm_gd 12 args h (mm_run p_Md_takeAfter (mm_fu + 1) 0 args [] h))
set_option maxRecDepth 100000 in
theorem e_Md_takeAfter_0 (f : Nat) (t : Nat) (v1 : Int32) (v2 : Int32) (v3 : Int32) (h : mm_H) : mm_run p_Md_takeAfter (f + 1) 0 [.ref t, .int v1, .int v2, .int v3] [] h =
  mm_cv (f_Md_takeWord [.ref t, .int v1] h) fun h1 =>
  mm_ci (f_Md_takeNumber [.ref t, .int v2, .int v3] h1) fun x3 h2 =>
  some (some (.int x3), h2) := rfl
theorem e_Md_takeAfter (t : Nat) (v1 : Int32) (v2 : Int32) (v3 : Int32) (h : mm_H) {fs : List Value} (hb : h t = some (.inr (12, fs))) : f_Md_takeAfter [.ref t, .int v1, .int v2, .int v3] h =
  mm_cv (f_Md_takeWord [.ref t, .int v1] h) fun h1 =>
  mm_ci (f_Md_takeNumber [.ref t, .int v2, .int v3] h1) fun x3 h2 =>
  some (some (.int x3), h2) := (mm_ga_is rfl).trans ((mm_gd_is hb).trans (e_Md_takeAfter_0 mm_fu t v1 v2 v3 h))
set_option maxRecDepth 100000 in
theorem i_Md_takeAfter (l : Launch) : mm_Imp l yX12_takeAfter cX12_takeAfter 4 (some .int) 4 f_Md_takeAfter := mm_imp l (P := p_Md_takeAfter) mm_cls_ok mm_sys_ok (by decide) (mm_Pok_of (fun _ h => absurd h List.not_mem_nil) (List.forall_mem_cons.mpr ⟨v_Md_takeWord l q_1988 (by decide), (List.forall_mem_cons.mpr ⟨v_Md_takeNumber l q_1968 (by decide), (fun _ h => absurd h List.not_mem_nil)⟩)⟩) (fun _ h => absurd h List.not_mem_nil) (fun _ h => absurd h List.not_mem_nil)) (by decide +kernel) rfl (cats := [1, 1, 1, 1]) (fun as h r e => ⟨(mm_ga_inv e).1, (mm_gd_inv (mm_ga_inv e).2).1⟩) rfl (by decide)
theorem v_Md_takeAfter (l : Launch) {own : String} {i n0 : Nat} (hl : Cond.methodLink own i yX12_takeAfter ∈ mm_tbl) (hn : 5 ≤ n0) : mm_cok l own n0 i (0, 3, 1, f_Md_takeAfter) := Or.inr (Or.inr ⟨rfl, yX12_takeAfter, cX12_takeAfter, 4, (some .int), 4, 12, TX12, 27, i_Md_takeAfter l, hn, by decide, by decide +kernel, rfl, fun _ _ _ e => (mm_gd_inv (mm_ga_inv e).2).2, hl, q_2029, q_96, q_179, q_2030⟩)
def p_Md_wordHere : mm_P := ([(0, .iconst (-1), 1, (-1)), (1, .istore_n 3, 1, 0), (2, .iconst 0, 1, 0), (3, .istore 4, 2, 0), (5, .iload 4, 2, 0), (7, .iload_n 2, 1, 0), (8, .if_icmp .ge 27, 3, 0), (11, .aload_n 0, 1, 0), (12, .iload_n 1, 1, 0), (13, .iload 4, 2, 0), (15, .iadd, 1, 0), (16, .invokevirtual 184, 3, 0), (19, .ifCond .eq 8, 3, 0), (22, .iload 4, 2, 0), (24, .goto 4, 3, 0), (27, .iload_n 3, 1, 0), (28, .istore_n 3, 1, 0), (29, .iinc 4 1, 3, 1), (32, .goto (-27), 3, 0), (35, .iload_n 3, 1, 0), (36, .ireturn, 1, 0)], [], [(184, 0, 1, 1, f_Md_isWord)], [], [], [(0, [0, 1, 2]), (5, [0, 1, 2, 3, 4])], [], 2)
def f_Md_wordHere : mm_F := fun args h => mm_ga [1, 1, 1] args (mm_gd 12 args h (mm_run p_Md_wordHere (mm_fu + 1) 0 args [] h))
set_option maxRecDepth 100000 in
theorem e_Md_wordHere_0 (f : Nat) (t : Nat) (v1 : Int32) (v2 : Int32) (h : mm_H) : mm_run p_Md_wordHere (f + 1) 0 [.ref t, .int v1, .int v2] [] h =
  mm_run p_Md_wordHere f 5 [.ref t, .int v1, .int v2, .int (-1), .int 0] [] h := rfl
theorem e_Md_wordHere (t : Nat) (v1 : Int32) (v2 : Int32) (h : mm_H) {fs : List Value} (hb : h t = some (.inr (12, fs))) : f_Md_wordHere [.ref t, .int v1, .int v2] h =
  mm_run p_Md_wordHere mm_fu 5 [.ref t, .int v1, .int v2, .int (-1), .int 0] [] h := (mm_ga_is rfl).trans ((mm_gd_is hb).trans (e_Md_wordHere_0 mm_fu t v1 v2 h))
set_option maxRecDepth 100000 in
theorem e_Md_wordHere_5 (f : Nat) (t : Nat) (v1 : Int32) (v2 : Int32) (v3 : Int32) (v4 : Int32) (h : mm_H) : mm_run p_Md_wordHere (f + 1) 5 [.ref t, .int v1, .int v2, .int v3, .int v4] [] h =
  if v4 < v2 then
    mm_ci (f_Md_isWord [.ref t, .int (v1 + v4)] h) fun x2 h1 =>
    if x2 = 0 then
      mm_run p_Md_wordHere f 5 [.ref t, .int v1, .int v2, .int v3, .int (v4 + 1)] [] h1
    else
      mm_run p_Md_wordHere f 5 [.ref t, .int v1, .int v2, .int v4, .int (v4 + 1)] [] h1
  else
    some (some (.int v3), h) := rfl
set_option maxRecDepth 100000 in
theorem i_Md_wordHere (l : Launch) : mm_Imp l yX12_wordHere cX12_wordHere 5 (some .int) 2 f_Md_wordHere := mm_imp l (P := p_Md_wordHere) mm_cls_ok mm_sys_ok (by decide) (mm_Pok_of (fun _ h => absurd h List.not_mem_nil) (List.forall_mem_cons.mpr ⟨v_Md_isWord l q_1948 (by decide), (fun _ h => absurd h List.not_mem_nil)⟩) (fun _ h => absurd h List.not_mem_nil) (fun _ h => absurd h List.not_mem_nil)) (by decide +kernel) rfl (cats := [1, 1, 1]) (fun as h r e => ⟨(mm_ga_inv e).1, (mm_gd_inv (mm_ga_inv e).2).1⟩) rfl (by decide)
theorem v_Md_wordHere (l : Launch) {own : String} {i n0 : Nat} (hl : Cond.methodLink own i yX12_wordHere ∈ mm_tbl) (hn : 3 ≤ n0) : mm_cok l own n0 i (0, 2, 1, f_Md_wordHere) := Or.inr (Or.inr ⟨rfl, yX12_wordHere, cX12_wordHere, 5, (some .int), 2, 12, TX12, 27, i_Md_wordHere l, hn, by decide, by decide +kernel, rfl, fun _ _ _ e => (mm_gd_inv (mm_ga_inv e).2).2, hl, q_1946, q_76, q_179, q_1947⟩)
def p_Md_takeOne : mm_P := ([(0, .aload_n 0, 1, 0), (1, .getfield 175, 3, 0), (4, .ifCond .le 7, 3, 0), (7, .iconst (-1), 1, (-1)), (8, .goto 9, 3, 0), (11, .aload_n 0, 1, 0), (12, .iload_n 1, 1, 0), (13, .iload_n 2, 1, 0), (14, .invokevirtual 198, 3, 0), (17, .istore_n 3, 1, 0), (18, .aload_n 0, 1, 0), (19, .getfield 175, 3, 0), (22, .ifCond .ne 12, 3, 0), (25, .iload_n 3, 1, 0), (26, .ifCond .ge 8, 3, 0), (29, .aload_n 0, 1, 0), (30, .iconst 1, 1, 1), (31, .invokevirtual 181, 3, 0), (34, .aload_n 0, 1, 0), (35, .dup, 1, 0), (36, .getfield 172, 3, 0), (39, .aload_n 0, 1, 0), (40, .getfield 175, 3, 0), (43, .ifCond .le 7, 3, 0), (46, .iconst 0, 1, 0), (47, .goto 4, 3, 0), (50, .iconst 1, 1, 1), (51, .iadd, 1, 0), (52, .putfield 172, 3, 0), (55, .aload_n 0, 1, 0), (56, .getfield 175, 3, 0), (59, .ifCond .le 7, 3, 0), (62, .iconst 0, 1, 0), (63, .goto 4, 3, 0), (66, .iload_n 3, 1, 0), (67, .ireturn, 1, 0)], [(172, 12, 7, 0), (175, 12, 8, 0)], [(181, 0, 1, 0, f_Md_wrong), (198, 0, 2, 1, f_Md_wordHere)], [], [], [(0, [0, 1, 2]), (34, [0, 3])], [], 2)
def f_Md_takeOne : mm_F := fun args h => mm_ga [1, 1, 1] args (mm_gd 12 args h (mm_run p_Md_takeOne (mm_fu + 1) 0 args [] h))
set_option maxRecDepth 100000 in
theorem e_Md_takeOne_0 (f : Nat) (t : Nat) (v1 : Int32) (v2 : Int32) (h : mm_H) : mm_run p_Md_takeOne (f + 1) 0 [.ref t, .int v1, .int v2] [] h =
  (mm_gi 12 8 h t).bind fun x1 =>
  if (0 : Int32) < x1 then
    (mm_gi 12 8 h t).bind fun x2 =>
    if x2 = 0 then
      mm_cv (f_Md_wrong [.ref t, .int 1] h) fun h3 =>
      mm_run p_Md_takeOne f 34 [.ref t, .int (-1)] [] h3
    else
      mm_run p_Md_takeOne f 34 [.ref t, .int (-1)] [] h
  else
    mm_ci (f_Md_wordHere [.ref t, .int v1, .int v2] h) fun x5 h4 =>
    (mm_gi 12 8 h4 t).bind fun x6 =>
    if x6 = 0 then
      if x5 < 0 then
        mm_cv (f_Md_wrong [.ref t, .int 1] h4) fun h7 =>
        mm_run p_Md_takeOne f 34 [.ref t, .int x5] [] h7
      else
        mm_run p_Md_takeOne f 34 [.ref t, .int x5] [] h4
    else
      mm_run p_Md_takeOne f 34 [.ref t, .int x5] [] h4 := rfl
theorem e_Md_takeOne (t : Nat) (v1 : Int32) (v2 : Int32) (h : mm_H) {fs : List Value} (hb : h t = some (.inr (12, fs))) : f_Md_takeOne [.ref t, .int v1, .int v2] h =
  (mm_gi 12 8 h t).bind fun x1 =>
  if (0 : Int32) < x1 then
    (mm_gi 12 8 h t).bind fun x2 =>
    if x2 = 0 then
      mm_cv (f_Md_wrong [.ref t, .int 1] h) fun h3 =>
      mm_run p_Md_takeOne mm_fu 34 [.ref t, .int (-1)] [] h3
    else
      mm_run p_Md_takeOne mm_fu 34 [.ref t, .int (-1)] [] h
  else
    mm_ci (f_Md_wordHere [.ref t, .int v1, .int v2] h) fun x5 h4 =>
    (mm_gi 12 8 h4 t).bind fun x6 =>
    if x6 = 0 then
      if x5 < 0 then
        mm_cv (f_Md_wrong [.ref t, .int 1] h4) fun h7 =>
        mm_run p_Md_takeOne mm_fu 34 [.ref t, .int x5] [] h7
      else
        mm_run p_Md_takeOne mm_fu 34 [.ref t, .int x5] [] h4
    else
      mm_run p_Md_takeOne mm_fu 34 [.ref t, .int x5] [] h4 := (mm_ga_is rfl).trans ((mm_gd_is hb).trans (e_Md_takeOne_0 mm_fu t v1 v2 h))
set_option maxRecDepth 100000 in
theorem e_Md_takeOne_34 (f : Nat) (t : Nat) (v3 : Int32) (h : mm_H) : mm_run p_Md_takeOne (f + 1) 34 [.ref t, .int v3] [] h =
  (mm_gi 12 7 h t).bind fun x1 =>
  (mm_gi 12 8 h t).bind fun x2 =>
  if (0 : Int32) < x2 then
    (mm_pf 12 7 (.int (x1 + 0)) h t).bind fun h3 =>
    (mm_gi 12 8 h3 t).bind fun x4 =>
    if (0 : Int32) < x4 then
      some (some (.int 0), h3)
    else
      some (some (.int v3), h3)
  else
    (mm_pf 12 7 (.int (x1 + 1)) h t).bind fun h5 =>
    (mm_gi 12 8 h5 t).bind fun x6 =>
    if (0 : Int32) < x6 then
      some (some (.int 0), h5)
    else
      some (some (.int v3), h5) := rfl
set_option maxRecDepth 100000 in
theorem i_Md_takeOne (l : Launch) : mm_Imp l yX12_takeOne cX12_takeOne 4 (some .int) 3 f_Md_takeOne := mm_imp l (P := p_Md_takeOne) mm_cls_ok mm_sys_ok (by decide) (mm_Pok_of (List.forall_mem_cons.mpr ⟨k_X12_172, (List.forall_mem_cons.mpr ⟨k_X12_175, (fun _ h => absurd h List.not_mem_nil)⟩)⟩) (List.forall_mem_cons.mpr ⟨v_Md_wrong l q_1956 (by decide), (List.forall_mem_cons.mpr ⟨v_Md_wordHere l q_1944 (by decide), (fun _ h => absurd h List.not_mem_nil)⟩)⟩) (fun _ h => absurd h List.not_mem_nil) (fun _ h => absurd h List.not_mem_nil)) (by decide +kernel) rfl (cats := [1, 1, 1]) (fun as h r e => ⟨(mm_ga_inv e).1, (mm_gd_inv (mm_ga_inv e).2).1⟩) rfl (by decide)
theorem v_Md_takeOne (l : Launch) {own : String} {i n0 : Nat} (hl : Cond.methodLink own i yX12_takeOne ∈ mm_tbl) (hn : 4 ≤ n0) : mm_cok l own n0 i (0, 2, 1, f_Md_takeOne) := Or.inr (Or.inr ⟨rfl, yX12_takeOne, cX12_takeOne, 4, (some .int), 3, 12, TX12, 27, i_Md_takeOne l, hn, by decide, by decide +kernel, rfl, fun _ _ _ e => (mm_gd_inv (mm_ga_inv e).2).2, hl, q_1986, q_86, q_179, q_1987⟩)
def p_Md_isName : mm_P := ([(0, .aload_n 0, 1, 0), (1, .getfield 175, 3, 0), (4, .ifCond .ne 30, 3, 0), (7, .aload_n 0, 1, 0), (8, .getfield 24, 3, 0), (11, .aload_n 0, 1, 0), (12, .getfield 172, 3, 0), (15, .iaload, 1, 0), (16, .iconst 1, 1, 1), (17, .if_icmp .ne 17, 3, 0), (20, .aload_n 0, 1, 0), (21, .iconst 0, 1, 0), (22, .bipush 38, 2, 38), (24, .invokevirtual 198, 3, 0), (27, .ifCond .ge 7, 3, 0), (30, .iconst 1, 1, 1), (31, .goto 4, 3, 0), (34, .iconst 0, 1, 0), (35, .ireturn, 1, 0)], [(24, 12, 4, 4), (172, 12, 7, 0), (175, 12, 8, 0)], [(198, 0, 2, 1, f_Md_wordHere)], [], [], [(0, [0])], [], 1)
def f_Md_isName : mm_F := fun args h => mm_ga [1] args (mm_gd 12 args h (mm_run p_Md_isName (mm_fu + 1) 0 args [] h))
set_option maxRecDepth 100000 in
theorem e_Md_isName_0 (f : Nat) (t : Nat) (h : mm_H) : mm_run p_Md_isName (f + 1) 0 [.ref t] [] h =
  (mm_gi 12 8 h t).bind fun x1 =>
  if x1 = 0 then
    (mm_gr 12 4 h t).bind fun r2 =>
    (mm_gi 12 7 h t).bind fun x3 =>
    (mm_li h r2 x3).bind fun x4 =>
    if x4 = 1 then
      mm_ci (f_Md_wordHere [.ref t, .int 0, .int 38] h) fun x6 h5 =>
      if x6 < 0 then
        some (some (.int 1), h5)
      else
        some (some (.int 0), h5)
    else
      some (some (.int 0), h)
  else
    some (some (.int 0), h) := rfl
theorem e_Md_isName (t : Nat) (h : mm_H) {fs : List Value} (hb : h t = some (.inr (12, fs))) : f_Md_isName [.ref t] h =
  (mm_gi 12 8 h t).bind fun x1 =>
  if x1 = 0 then
    (mm_gr 12 4 h t).bind fun r2 =>
    (mm_gi 12 7 h t).bind fun x3 =>
    (mm_li h r2 x3).bind fun x4 =>
    if x4 = 1 then
      mm_ci (f_Md_wordHere [.ref t, .int 0, .int 38] h) fun x6 h5 =>
      if x6 < 0 then
        some (some (.int 1), h5)
      else
        some (some (.int 0), h5)
    else
      some (some (.int 0), h)
  else
    some (some (.int 0), h) := (mm_ga_is rfl).trans ((mm_gd_is hb).trans (e_Md_isName_0 mm_fu t h))
set_option maxRecDepth 100000 in
theorem i_Md_isName (l : Launch) : mm_Imp l yX12_isName cX12_isName 1 (some .boolean) 3 f_Md_isName := mm_imp l (P := p_Md_isName) mm_cls_ok mm_sys_ok (by decide) (mm_Pok_of (List.forall_mem_cons.mpr ⟨k_X12_24, (List.forall_mem_cons.mpr ⟨k_X12_172, (List.forall_mem_cons.mpr ⟨k_X12_175, (fun _ h => absurd h List.not_mem_nil)⟩)⟩)⟩) (List.forall_mem_cons.mpr ⟨v_Md_wordHere l q_1944 (by decide), (fun _ h => absurd h List.not_mem_nil)⟩) (fun _ h => absurd h List.not_mem_nil) (fun _ h => absurd h List.not_mem_nil)) (by decide +kernel) rfl (cats := [1]) (fun as h r e => ⟨(mm_ga_inv e).1, (mm_gd_inv (mm_ga_inv e).2).1⟩) rfl (by decide)
theorem v_Md_isName (l : Launch) {own : String} {i n0 : Nat} (hl : Cond.methodLink own i yX12_isName ∈ mm_tbl) (hn : 4 ≤ n0) : mm_cok l own n0 i (0, 0, 1, f_Md_isName) := Or.inr (Or.inr ⟨rfl, yX12_isName, cX12_isName, 1, (some .boolean), 3, 12, TX12, 27, i_Md_isName l, hn, by decide, by decide +kernel, rfl, fun _ _ _ e => (mm_gd_inv (mm_ga_inv e).2).2, hl, q_1978, q_84, q_179, q_1979⟩)
def p_Md_nameAt : mm_P := ([(0, .iconst (-1), 1, (-1)), (1, .istore_n 3, 1, 0), (2, .iconst 0, 1, 0), (3, .istore 4, 2, 0), (5, .iload 4, 2, 0), (7, .iload_n 2, 1, 0), (8, .if_icmp .ge 38, 3, 0), (11, .aload_n 0, 1, 0), (12, .getfield 117, 3, 0), (15, .iload_n 1, 1, 0), (16, .iload 4, 2, 0), (18, .iadd, 1, 0), (19, .laload, 1, 0), (20, .aload_n 0, 1, 0), (21, .getfield 30, 3, 0), (24, .aload_n 0, 1, 0), (25, .getfield 172, 3, 0), (28, .laload, 1, 0), (29, .lcmp, 1, 0), (30, .ifCond .ne 8, 3, 0), (33, .iload 4, 2, 0), (35, .goto 4, 3, 0), (38, .iload_n 3, 1, 0), (39, .istore_n 3, 1, 0), (40, .iinc 4 1, 3, 1), (43, .goto (-38), 3, 0), (46, .iload_n 3, 1, 0), (47, .ireturn, 1, 0)], [(30, 12, 6, 4), (117, 12, 12, 4), (172, 12, 7, 0)], [], [], [], [(0, [0, 1, 2]), (5, [0, 1, 2, 3, 4])], [], 2)
def f_Md_nameAt : mm_F := fun args h => mm_ga [1, 1, 1] args (mm_gd 12 args h (mm_run p_Md_nameAt (mm_fu + 1) 0 args [] h))
set_option maxRecDepth 100000 in
theorem e_Md_nameAt_0 (f : Nat) (t : Nat) (v1 : Int32) (v2 : Int32) (h : mm_H) : mm_run p_Md_nameAt (f + 1) 0 [.ref t, .int v1, .int v2] [] h =
  mm_run p_Md_nameAt f 5 [.ref t, .int v1, .int v2, .int (-1), .int 0] [] h := rfl
theorem e_Md_nameAt (t : Nat) (v1 : Int32) (v2 : Int32) (h : mm_H) {fs : List Value} (hb : h t = some (.inr (12, fs))) : f_Md_nameAt [.ref t, .int v1, .int v2] h =
  mm_run p_Md_nameAt mm_fu 5 [.ref t, .int v1, .int v2, .int (-1), .int 0] [] h := (mm_ga_is rfl).trans ((mm_gd_is hb).trans (e_Md_nameAt_0 mm_fu t v1 v2 h))
set_option maxRecDepth 100000 in
theorem e_Md_nameAt_5 (f : Nat) (t : Nat) (v1 : Int32) (v2 : Int32) (v3 : Int32) (v4 : Int32) (h : mm_H) : mm_run p_Md_nameAt (f + 1) 5 [.ref t, .int v1, .int v2, .int v3, .int v4] [] h =
  if v4 < v2 then
    (mm_gr 12 12 h t).bind fun r1 =>
    (mm_ll h r1 (v1 + v4)).bind fun l2 =>
    (mm_gr 12 6 h t).bind fun r3 =>
    (mm_gi 12 7 h t).bind fun x4 =>
    (mm_ll h r3 x4).bind fun l5 =>
    if (lg_cmp l2 l5) = 0 then
      mm_run p_Md_nameAt f 5 [.ref t, .int v1, .int v2, .int v4, .int (v4 + 1)] [] h
    else
      mm_run p_Md_nameAt f 5 [.ref t, .int v1, .int v2, .int v3, .int (v4 + 1)] [] h
  else
    some (some (.int v3), h) := rfl
set_option maxRecDepth 100000 in
theorem i_Md_nameAt (l : Launch) : mm_Imp l yX12_nameAt cX12_nameAt 5 (some .int) 1 f_Md_nameAt := mm_imp l (P := p_Md_nameAt) mm_cls_ok mm_sys_ok (by decide) (mm_Pok_of (List.forall_mem_cons.mpr ⟨k_X12_30, (List.forall_mem_cons.mpr ⟨k_X12_117, (List.forall_mem_cons.mpr ⟨k_X12_172, (fun _ h => absurd h List.not_mem_nil)⟩)⟩)⟩) (fun _ h => absurd h List.not_mem_nil) (fun _ h => absurd h List.not_mem_nil) (fun _ h => absurd h List.not_mem_nil)) (by decide +kernel) rfl (cats := [1, 1, 1]) (fun as h r e => ⟨(mm_ga_inv e).1, (mm_gd_inv (mm_ga_inv e).2).1⟩) rfl (by decide)
theorem v_Md_nameAt (l : Launch) {own : String} {i n0 : Nat} (hl : Cond.methodLink own i yX12_nameAt ∈ mm_tbl) (hn : 2 ≤ n0) : mm_cok l own n0 i (0, 2, 1, f_Md_nameAt) := Or.inr (Or.inr ⟨rfl, yX12_nameAt, cX12_nameAt, 5, (some .int), 1, 12, TX12, 27, i_Md_nameAt l, hn, by decide, by decide +kernel, rfl, fun _ _ _ e => (mm_gd_inv (mm_ga_inv e).2).2, hl, q_1982, q_85, q_179, q_1983⟩)
def p_Md_takeTold : mm_P := ([(0, .aload_n 0, 1, 0), (1, .getfield 175, 3, 0), (4, .ifCond .ne 15, 3, 0), (7, .aload_n 0, 1, 0), (8, .invokevirtual 201, 3, 0), (11, .ifCond .ne 8, 3, 0), (14, .aload_n 0, 1, 0), (15, .iconst 1, 1, 1), (16, .invokevirtual 181, 3, 0), (19, .aload_n 0, 1, 0), (20, .getfield 175, 3, 0), (23, .ifCond .le 7, 3, 0), (26, .iconst (-1), 1, (-1)), (27, .goto 9, 3, 0), (30, .aload_n 0, 1, 0), (31, .iload_n 1, 1, 0), (32, .iload_n 2, 1, 0), (33, .invokevirtual 205, 3, 0), (36, .istore_n 3, 1, 0), (37, .aload_n 0, 1, 0), (38, .getfield 175, 3, 0), (41, .ifCond .ne 12, 3, 0), (44, .iload_n 3, 1, 0), (45, .ifCond .ge 8, 3, 0), (48, .aload_n 0, 1, 0), (49, .iconst 2, 1, 2), (50, .invokevirtual 181, 3, 0), (53, .aload_n 0, 1, 0), (54, .dup, 1, 0), (55, .getfield 172, 3, 0), (58, .aload_n 0, 1, 0), (59, .getfield 175, 3, 0), (62, .ifCond .le 7, 3, 0), (65, .iconst 0, 1, 0), (66, .goto 4, 3, 0), (69, .iconst 1, 1, 1), (70, .iadd, 1, 0), (71, .putfield 172, 3, 0), (74, .aload_n 0, 1, 0), (75, .getfield 175, 3, 0), (78, .ifCond .le 7, 3, 0), (81, .iconst 0, 1, 0), (82, .goto 4, 3, 0), (85, .iload_n 3, 1, 0), (86, .ireturn, 1, 0)], [(172, 12, 7, 0), (175, 12, 8, 0)], [(181, 0, 1, 0, f_Md_wrong), (201, 0, 0, 1, f_Md_isName), (205, 0, 2, 1, f_Md_nameAt)], [], [], [(0, [0, 1, 2]), (19, [0, 1, 2]), (53, [0, 3])], [], 2)
def f_Md_takeTold : mm_F := fun args h => mm_ga [1, 1, 1] args (mm_gd 12 args h (mm_run p_Md_takeTold (mm_fu + 1) 0 args [] h))
set_option maxRecDepth 100000 in
theorem e_Md_takeTold_0 (f : Nat) (t : Nat) (v1 : Int32) (v2 : Int32) (h : mm_H) : mm_run p_Md_takeTold (f + 1) 0 [.ref t, .int v1, .int v2] [] h =
  (mm_gi 12 8 h t).bind fun x1 =>
  if x1 = 0 then
    mm_ci (f_Md_isName [.ref t] h) fun x3 h2 =>
    if x3 = 0 then
      mm_cv (f_Md_wrong [.ref t, .int 1] h2) fun h4 =>
      mm_run p_Md_takeTold f 19 [.ref t, .int v1, .int v2] [] h4
    else
      mm_run p_Md_takeTold f 19 [.ref t, .int v1, .int v2] [] h2
  else
    mm_run p_Md_takeTold f 19 [.ref t, .int v1, .int v2] [] h := rfl
theorem e_Md_takeTold (t : Nat) (v1 : Int32) (v2 : Int32) (h : mm_H) {fs : List Value} (hb : h t = some (.inr (12, fs))) : f_Md_takeTold [.ref t, .int v1, .int v2] h =
  (mm_gi 12 8 h t).bind fun x1 =>
  if x1 = 0 then
    mm_ci (f_Md_isName [.ref t] h) fun x3 h2 =>
    if x3 = 0 then
      mm_cv (f_Md_wrong [.ref t, .int 1] h2) fun h4 =>
      mm_run p_Md_takeTold mm_fu 19 [.ref t, .int v1, .int v2] [] h4
    else
      mm_run p_Md_takeTold mm_fu 19 [.ref t, .int v1, .int v2] [] h2
  else
    mm_run p_Md_takeTold mm_fu 19 [.ref t, .int v1, .int v2] [] h := (mm_ga_is rfl).trans ((mm_gd_is hb).trans (e_Md_takeTold_0 mm_fu t v1 v2 h))
set_option maxRecDepth 100000 in
theorem e_Md_takeTold_19 (f : Nat) (t : Nat) (v1 : Int32) (v2 : Int32) (h : mm_H) : mm_run p_Md_takeTold (f + 1) 19 [.ref t, .int v1, .int v2] [] h =
  (mm_gi 12 8 h t).bind fun x1 =>
  if (0 : Int32) < x1 then
    (mm_gi 12 8 h t).bind fun x2 =>
    if x2 = 0 then
      mm_cv (f_Md_wrong [.ref t, .int 2] h) fun h3 =>
      mm_run p_Md_takeTold f 53 [.ref t, .int (-1)] [] h3
    else
      mm_run p_Md_takeTold f 53 [.ref t, .int (-1)] [] h
  else
    mm_ci (f_Md_nameAt [.ref t, .int v1, .int v2] h) fun x5 h4 =>
    (mm_gi 12 8 h4 t).bind fun x6 =>
    if x6 = 0 then
      if x5 < 0 then
        mm_cv (f_Md_wrong [.ref t, .int 2] h4) fun h7 =>
        mm_run p_Md_takeTold f 53 [.ref t, .int x5] [] h7
      else
        mm_run p_Md_takeTold f 53 [.ref t, .int x5] [] h4
    else
      mm_run p_Md_takeTold f 53 [.ref t, .int x5] [] h4 := rfl
set_option maxRecDepth 100000 in
theorem e_Md_takeTold_53 (f : Nat) (t : Nat) (v3 : Int32) (h : mm_H) : mm_run p_Md_takeTold (f + 1) 53 [.ref t, .int v3] [] h =
  (mm_gi 12 7 h t).bind fun x1 =>
  (mm_gi 12 8 h t).bind fun x2 =>
  if (0 : Int32) < x2 then
    (mm_pf 12 7 (.int (x1 + 0)) h t).bind fun h3 =>
    (mm_gi 12 8 h3 t).bind fun x4 =>
    if (0 : Int32) < x4 then
      some (some (.int 0), h3)
    else
      some (some (.int v3), h3)
  else
    (mm_pf 12 7 (.int (x1 + 1)) h t).bind fun h5 =>
    (mm_gi 12 8 h5 t).bind fun x6 =>
    if (0 : Int32) < x6 then
      some (some (.int 0), h5)
    else
      some (some (.int v3), h5) := rfl
set_option maxRecDepth 100000 in
theorem i_Md_takeTold (l : Launch) : mm_Imp l yX12_takeTold cX12_takeTold 4 (some .int) 4 f_Md_takeTold := mm_imp l (P := p_Md_takeTold) mm_cls_ok mm_sys_ok (by decide) (mm_Pok_of (List.forall_mem_cons.mpr ⟨k_X12_172, (List.forall_mem_cons.mpr ⟨k_X12_175, (fun _ h => absurd h List.not_mem_nil)⟩)⟩) (List.forall_mem_cons.mpr ⟨v_Md_wrong l q_1956 (by decide), (List.forall_mem_cons.mpr ⟨v_Md_isName l q_1976 (by decide), (List.forall_mem_cons.mpr ⟨v_Md_nameAt l q_1980 (by decide), (fun _ h => absurd h List.not_mem_nil)⟩)⟩)⟩) (fun _ h => absurd h List.not_mem_nil) (fun _ h => absurd h List.not_mem_nil)) (by decide +kernel) rfl (cats := [1, 1, 1]) (fun as h r e => ⟨(mm_ga_inv e).1, (mm_gd_inv (mm_ga_inv e).2).1⟩) rfl (by decide)
theorem v_Md_takeTold (l : Launch) {own : String} {i n0 : Nat} (hl : Cond.methodLink own i yX12_takeTold ∈ mm_tbl) (hn : 5 ≤ n0) : mm_cok l own n0 i (0, 2, 1, f_Md_takeTold) := Or.inr (Or.inr ⟨rfl, yX12_takeTold, cX12_takeTold, 4, (some .int), 4, 12, TX12, 27, i_Md_takeTold l, hn, by decide, by decide +kernel, rfl, fun _ _ _ e => (mm_gd_inv (mm_ga_inv e).2).2, hl, q_2049, q_100, q_179, q_2050⟩)
def p_Md_told : mm_P := ([(0, .aload_n 0, 1, 0), (1, .getfield 111, 3, 0), (4, .bipush 53, 2, 53), (6, .iload_n 1, 1, 0), (7, .iadd, 1, 0), (8, .iaload, 1, 0), (9, .ireturn, 1, 0)], [(111, 12, 10, 4)], [], [], [], [(0, [0, 1])], [], 2)
def f_Md_told : mm_F := fun args h => mm_ga [1, 1] args (mm_gd 12 args h (mm_run p_Md_told (mm_fu + 1) 0 args [] h))
set_option maxRecDepth 100000 in
theorem e_Md_told_0 (f : Nat) (t : Nat) (v1 : Int32) (h : mm_H) : mm_run p_Md_told (f + 1) 0 [.ref t, .int v1] [] h =
  (mm_gr 12 10 h t).bind fun r1 =>
  (mm_li h r1 (53 + v1)).bind fun x2 =>
  some (some (.int x2), h) := rfl
theorem e_Md_told (t : Nat) (v1 : Int32) (h : mm_H) {fs : List Value} (hb : h t = some (.inr (12, fs))) : f_Md_told [.ref t, .int v1] h =
  (mm_gr 12 10 h t).bind fun r1 =>
  (mm_li h r1 (53 + v1)).bind fun x2 =>
  some (some (.int x2), h) := (mm_ga_is rfl).trans ((mm_gd_is hb).trans (e_Md_told_0 mm_fu t v1 h))
set_option maxRecDepth 100000 in
theorem i_Md_told (l : Launch) : mm_Imp l yX12_told cX12_told 2 (some .int) 1 f_Md_told := mm_imp l (P := p_Md_told) mm_cls_ok mm_sys_ok (by decide) (mm_Pok_of (List.forall_mem_cons.mpr ⟨k_X12_111, (fun _ h => absurd h List.not_mem_nil)⟩) (fun _ h => absurd h List.not_mem_nil) (fun _ h => absurd h List.not_mem_nil) (fun _ h => absurd h List.not_mem_nil)) (by decide +kernel) rfl (cats := [1, 1]) (fun as h r e => ⟨(mm_ga_inv e).1, (mm_gd_inv (mm_ga_inv e).2).1⟩) rfl (by decide)
theorem v_Md_told (l : Launch) {own : String} {i n0 : Nat} (hl : Cond.methodLink own i yX12_told ∈ mm_tbl) (hn : 2 ≤ n0) : mm_cok l own n0 i (0, 1, 1, f_Md_told) := Or.inr (Or.inr ⟨rfl, yX12_told, cX12_told, 2, (some .int), 1, 12, TX12, 27, i_Md_told l, hn, by decide, by decide +kernel, rfl, fun _ _ _ e => (mm_gd_inv (mm_ga_inv e).2).2, hl, q_1954, q_78, q_179, q_1955⟩)
def p_Md_is : mm_P := ([(0, .aload_n 0, 1, 0), (1, .getfield 111, 3, 0), (4, .bipush 53, 2, 53), (6, .iload_n 1, 1, 0), (7, .iadd, 1, 0), (8, .iload_n 2, 1, 0), (9, .iastore, 1, 0), (10, .return_, 1, 0)], [(111, 12, 10, 4)], [], [], [], [(0, [0, 1, 2])], [], 0)
def f_Md_is : mm_F := fun args h => mm_ga [1, 1, 1] args (mm_gd 12 args h (mm_run p_Md_is (mm_fu + 1) 0 args [] h))
set_option maxRecDepth 100000 in
theorem e_Md_is_0 (f : Nat) (t : Nat) (v1 : Int32) (v2 : Int32) (h : mm_H) : mm_run p_Md_is (f + 1) 0 [.ref t, .int v1, .int v2] [] h =
  (mm_gr 12 10 h t).bind fun r1 =>
  (mm_si h r1 (53 + v1) v2).bind fun h2 =>
  some (none, h2) := rfl
theorem e_Md_is (t : Nat) (v1 : Int32) (v2 : Int32) (h : mm_H) {fs : List Value} (hb : h t = some (.inr (12, fs))) : f_Md_is [.ref t, .int v1, .int v2] h =
  (mm_gr 12 10 h t).bind fun r1 =>
  (mm_si h r1 (53 + v1) v2).bind fun h2 =>
  some (none, h2) := (mm_ga_is rfl).trans ((mm_gd_is hb).trans (e_Md_is_0 mm_fu t v1 v2 h))
set_option maxRecDepth 100000 in
theorem i_Md_is (l : Launch) : mm_Imp l yX12_is cX12_is 3 none 1 f_Md_is := mm_imp l (P := p_Md_is) mm_cls_ok mm_sys_ok (by decide) (mm_Pok_of (List.forall_mem_cons.mpr ⟨k_X12_111, (fun _ h => absurd h List.not_mem_nil)⟩) (fun _ h => absurd h List.not_mem_nil) (fun _ h => absurd h List.not_mem_nil) (fun _ h => absurd h List.not_mem_nil)) (by decide +kernel) rfl (cats := [1, 1, 1]) (fun as h r e => ⟨(mm_ga_inv e).1, (mm_gd_inv (mm_ga_inv e).2).1⟩) rfl (by decide)
theorem v_Md_is (l : Launch) {own : String} {i n0 : Nat} (hl : Cond.methodLink own i yX12_is ∈ mm_tbl) (hn : 2 ≤ n0) : mm_cok l own n0 i (0, 2, 0, f_Md_is) := Or.inr (Or.inr ⟨rfl, yX12_is, cX12_is, 3, none, 1, 12, TX12, 27, i_Md_is l, hn, by decide, by decide +kernel, rfl, fun _ _ _ e => (mm_gd_inv (mm_ga_inv e).2).2, hl, q_1962, q_80, q_179, q_1963⟩)
def p_Md_readIndex : mm_P := ([(0, .aload_n 0, 1, 0), (1, .iconst 2, 1, 2), (2, .invokevirtual 217, 3, 0), (5, .istore_n 1, 1, 0), (6, .aload_n 0, 1, 0), (7, .invokevirtual 201, 3, 0), (10, .ifCond .ne 11, 3, 0), (13, .aload_n 0, 1, 0), (14, .iconst 1, 1, 1), (15, .invokevirtual 181, 3, 0), (18, .goto 17, 3, 0), (21, .aload_n 0, 1, 0), (22, .iconst 4, 1, 4), (23, .iload_n 1, 1, 0), (24, .invokevirtual 205, 3, 0), (27, .ifCond .lt 8, 3, 0), (30, .aload_n 0, 1, 0), (31, .iconst 3, 1, 3), (32, .invokevirtual 181, 3, 0), (35, .aload_n 0, 1, 0), (36, .getfield 175, 3, 0), (39, .ifCond .ne 30, 3, 0), (42, .aload_n 0, 1, 0), (43, .getfield 117, 3, 0), (46, .iconst 4, 1, 4), (47, .iload_n 1, 1, 0), (48, .iadd, 1, 0), (49, .aload_n 0, 1, 0), (50, .getfield 30, 3, 0), (53, .aload_n 0, 1, 0), (54, .getfield 172, 3, 0), (57, .laload, 1, 0), (58, .lastore, 1, 0), (59, .aload_n 0, 1, 0), (60, .dup, 1, 0), (61, .getfield 172, 3, 0), (64, .iconst 1, 1, 1), (65, .iadd, 1, 0), (66, .putfield 172, 3, 0), (69, .aload_n 0, 1, 0), (70, .bipush 16, 2, 16), (72, .iconst 4, 1, 4), (73, .invokevirtual 239, 3, 0), (76, .istore_n 2, 1, 0), (77, .aload_n 0, 1, 0), (78, .bipush 26, 2, 26), (80, .invokevirtual 191, 3, 0), (83, .aload_n 0, 1, 0), (84, .bipush 23, 2, 23), (86, .iconst 3, 1, 3), (87, .invokevirtual 239, 3, 0), (90, .istore_n 3, 1, 0), (91, .aload_n 0, 1, 0), (92, .getfield 175, 3, 0), (95, .ifCond .ne 29, 3, 0), (98, .aload_n 0, 1, 0), (99, .bipush 9, 2, 9), (101, .iload_n 1, 1, 0), (102, .iadd, 1, 0), (103, .iload_n 2, 1, 0), (104, .invokevirtual 220, 3, 0), (107, .aload_n 0, 1, 0), (108, .bipush 13, 2, 13), (110, .iload_n 1, 1, 0), (111, .iadd, 1, 0), (112, .iload_n 3, 1, 0), (113, .invokevirtual 220, 3, 0), (116, .aload_n 0, 1, 0), (117, .iconst 2, 1, 2), (118, .iload_n 1, 1, 0), (119, .iconst 1, 1, 1), (120, .iadd, 1, 0), (121, .invokevirtual 220, 3, 0), (124, .return_, 1, 0)], [(30, 12, 6, 4), (117, 12, 12, 4), (172, 12, 7, 0), (175, 12, 8, 0)], [(181, 0, 1, 0, f_Md_wrong), (191, 0, 1, 0, f_Md_takeWord), (201, 0, 0, 1, f_Md_isName), (205, 0, 2, 1, f_Md_nameAt), (217, 0, 1, 1, f_Md_told), (220, 0, 2, 0, f_Md_is), (239, 0, 2, 1, f_Md_takeOne)], [], [], [(0, [0]), (35, [0, 1])], [], 0)
def f_Md_readIndex : mm_F := fun args h => mm_ga [1] args (mm_gd 12 args h (mm_run p_Md_readIndex (mm_fu + 1) 0 args [] h))
set_option maxRecDepth 100000 in
theorem e_Md_readIndex_0 (f : Nat) (t : Nat) (h : mm_H) : mm_run p_Md_readIndex (f + 1) 0 [.ref t] [] h =
  mm_ci (f_Md_told [.ref t, .int 2] h) fun x2 h1 =>
  mm_ci (f_Md_isName [.ref t] h1) fun x4 h3 =>
  if x4 = 0 then
    mm_cv (f_Md_wrong [.ref t, .int 1] h3) fun h5 =>
    mm_run p_Md_readIndex f 35 [.ref t, .int x2] [] h5
  else
    mm_ci (f_Md_nameAt [.ref t, .int 4, .int x2] h3) fun x7 h6 =>
    if x7 < 0 then
      mm_run p_Md_readIndex f 35 [.ref t, .int x2] [] h6
    else
      mm_cv (f_Md_wrong [.ref t, .int 3] h6) fun h8 =>
      mm_run p_Md_readIndex f 35 [.ref t, .int x2] [] h8 := rfl
theorem e_Md_readIndex (t : Nat) (h : mm_H) {fs : List Value} (hb : h t = some (.inr (12, fs))) : f_Md_readIndex [.ref t] h =
  mm_ci (f_Md_told [.ref t, .int 2] h) fun x2 h1 =>
  mm_ci (f_Md_isName [.ref t] h1) fun x4 h3 =>
  if x4 = 0 then
    mm_cv (f_Md_wrong [.ref t, .int 1] h3) fun h5 =>
    mm_run p_Md_readIndex mm_fu 35 [.ref t, .int x2] [] h5
  else
    mm_ci (f_Md_nameAt [.ref t, .int 4, .int x2] h3) fun x7 h6 =>
    if x7 < 0 then
      mm_run p_Md_readIndex mm_fu 35 [.ref t, .int x2] [] h6
    else
      mm_cv (f_Md_wrong [.ref t, .int 3] h6) fun h8 =>
      mm_run p_Md_readIndex mm_fu 35 [.ref t, .int x2] [] h8 := (mm_ga_is rfl).trans ((mm_gd_is hb).trans (e_Md_readIndex_0 mm_fu t h))
set_option maxRecDepth 100000 in
theorem e_Md_readIndex_35 (f : Nat) (t : Nat) (v1 : Int32) (h : mm_H) : mm_run p_Md_readIndex (f + 1) 35 [.ref t, .int v1] [] h =
  (mm_gi 12 8 h t).bind fun x1 =>
  if x1 = 0 then
    (mm_gr 12 12 h t).bind fun r2 =>
    (mm_gr 12 6 h t).bind fun r3 =>
    (mm_gi 12 7 h t).bind fun x4 =>
    (mm_ll h r3 x4).bind fun l5 =>
    (mm_sl h r2 (4 + v1) l5).bind fun h6 =>
    (mm_gi 12 7 h6 t).bind fun x7 =>
    (mm_pf 12 7 (.int (x7 + 1)) h6 t).bind fun h8 =>
    mm_ci (f_Md_takeOne [.ref t, .int 16, .int 4] h8) fun x10 h9 =>
    mm_cv (f_Md_takeWord [.ref t, .int 26] h9) fun h11 =>
    mm_ci (f_Md_takeOne [.ref t, .int 23, .int 3] h11) fun x13 h12 =>
    (mm_gi 12 8 h12 t).bind fun x14 =>
    if x14 = 0 then
      mm_cv (f_Md_is [.ref t, .int (9 + v1), .int x10] h12) fun h15 =>
      mm_cv (f_Md_is [.ref t, .int (13 + v1), .int x13] h15) fun h16 =>
      mm_cv (f_Md_is [.ref t, .int 2, .int (v1 + 1)] h16) fun h17 =>
      some (none, h17)
    else
      some (none, h12)
  else
    mm_ci (f_Md_takeOne [.ref t, .int 16, .int 4] h) fun x19 h18 =>
    mm_cv (f_Md_takeWord [.ref t, .int 26] h18) fun h20 =>
    mm_ci (f_Md_takeOne [.ref t, .int 23, .int 3] h20) fun x22 h21 =>
    (mm_gi 12 8 h21 t).bind fun x23 =>
    if x23 = 0 then
      mm_cv (f_Md_is [.ref t, .int (9 + v1), .int x19] h21) fun h24 =>
      mm_cv (f_Md_is [.ref t, .int (13 + v1), .int x22] h24) fun h25 =>
      mm_cv (f_Md_is [.ref t, .int 2, .int (v1 + 1)] h25) fun h26 =>
      some (none, h26)
    else
      some (none, h21) := rfl
set_option maxRecDepth 100000 in
theorem i_Md_readIndex (l : Launch) : mm_Imp l yX12_readIndex cX12_readIndex 4 none 4 f_Md_readIndex := mm_imp l (P := p_Md_readIndex) mm_cls_ok mm_sys_ok (by decide) (mm_Pok_of (List.forall_mem_cons.mpr ⟨k_X12_30, (List.forall_mem_cons.mpr ⟨k_X12_117, (List.forall_mem_cons.mpr ⟨k_X12_172, (List.forall_mem_cons.mpr ⟨k_X12_175, (fun _ h => absurd h List.not_mem_nil)⟩)⟩)⟩)⟩) (List.forall_mem_cons.mpr ⟨v_Md_wrong l q_1956 (by decide), (List.forall_mem_cons.mpr ⟨v_Md_takeWord l q_1988 (by decide), (List.forall_mem_cons.mpr ⟨v_Md_isName l q_1976 (by decide), (List.forall_mem_cons.mpr ⟨v_Md_nameAt l q_1980 (by decide), (List.forall_mem_cons.mpr ⟨v_Md_told l q_1952 (by decide), (List.forall_mem_cons.mpr ⟨v_Md_is l q_1960 (by decide), (List.forall_mem_cons.mpr ⟨v_Md_takeOne l q_1984 (by decide), (fun _ h => absurd h List.not_mem_nil)⟩)⟩)⟩)⟩)⟩)⟩)⟩) (fun _ h => absurd h List.not_mem_nil) (fun _ h => absurd h List.not_mem_nil)) (by decide +kernel) rfl (cats := [1]) (fun as h r e => ⟨(mm_ga_inv e).1, (mm_gd_inv (mm_ga_inv e).2).1⟩) rfl (by decide)
theorem v_Md_readIndex (l : Launch) {own : String} {i n0 : Nat} (hl : Cond.methodLink own i yX12_readIndex ∈ mm_tbl) (hn : 5 ≤ n0) : mm_cok l own n0 i (0, 0, 0, f_Md_readIndex) := Or.inr (Or.inr ⟨rfl, yX12_readIndex, cX12_readIndex, 4, none, 4, 12, TX12, 27, i_Md_readIndex l, hn, by decide, by decide +kernel, rfl, fun _ _ _ e => (mm_gd_inv (mm_ga_inv e).2).2, hl, q_1974, q_83, q_179, q_1975⟩)
def p_Md_takeOf : mm_P := ([(0, .iconst 0, 1, 0), (1, .istore_n 2, 1, 0), (2, .iconst 0, 1, 0), (3, .istore_n 3, 1, 0), (4, .iload_n 3, 1, 0), (5, .aload_n 0, 1, 0), (6, .iconst 2, 1, 2), (7, .invokevirtual 217, 3, 0), (10, .if_icmp .ge 43, 3, 0), (13, .iload_n 2, 1, 0), (14, .ifCond .ne 27, 3, 0), (17, .aload_n 0, 1, 0), (18, .bipush 9, 2, 9), (20, .iload_n 3, 1, 0), (21, .iadd, 1, 0), (22, .invokevirtual 217, 3, 0), (25, .iconst 2, 1, 2), (26, .if_icmp .ne 19, 3, 0), (29, .aload_n 0, 1, 0), (30, .bipush 13, 2, 13), (32, .iload_n 3, 1, 0), (33, .iadd, 1, 0), (34, .invokevirtual 217, 3, 0), (37, .iload_n 1, 1, 0), (38, .if_icmp .ne 7, 3, 0), (41, .iconst 1, 1, 1), (42, .goto 4, 3, 0), (45, .iconst 0, 1, 0), (46, .istore_n 2, 1, 0), (47, .iinc 3 1, 3, 1), (50, .goto (-46), 3, 0), (53, .iconst 0, 1, 0), (54, .istore_n 3, 1, 0), (55, .iload_n 3, 1, 0), (56, .aload_n 0, 1, 0), (57, .iconst 3, 1, 3), (58, .invokevirtual 217, 3, 0), (61, .if_icmp .ge 64, 3, 0), (64, .iload_n 2, 1, 0), (65, .ifCond .eq 54, 3, 0), (68, .aload_n 0, 1, 0), (69, .getfield 175, 3, 0), (72, .ifCond .ne 47, 3, 0), (75, .aload_n 0, 1, 0), (76, .getfield 24, 3, 0), (79, .aload_n 0, 1, 0), (80, .getfield 172, 3, 0), (83, .iaload, 1, 0), (84, .iconst 2, 1, 2), (85, .if_icmp .ne 34, 3, 0), (88, .aload_n 0, 1, 0), (89, .bipush 17, 2, 17), (91, .iload_n 3, 1, 0), (92, .iadd, 1, 0), (93, .invokevirtual 217, 3, 0), (96, .iload_n 1, 1, 0), (97, .invokestatic 242, 3, 0), (100, .i2l, 1, 0), (101, .aload_n 0, 1, 0), (102, .getfield 30, 3, 0), (105, .aload_n 0, 1, 0), (106, .getfield 172, 3, 0), (109, .laload, 1, 0), (110, .lcmp, 1, 0), (111, .ifCond .ne 8, 3, 0), (114, .aload_n 0, 1, 0), (115, .iconst 3, 1, 3), (116, .invokevirtual 181, 3, 0), (119, .iinc 3 1, 3, 1), (122, .goto (-67), 3, 0), (125, .aload_n 0, 1, 0), (126, .iconst 0, 1, 0), (127, .sipush 999, 3, 999), (130, .invokevirtual 194, 3, 0), (133, .ireturn, 1, 0)], [(24, 12, 4, 4), (30, 12, 6, 4), (172, 12, 7, 0), (175, 12, 8, 0)], [(181, 0, 1, 0, f_Md_wrong), (194, 0, 2, 1, f_Md_takeNumber), (217, 0, 1, 1, f_Md_told), (242, 1, 2, 1, f_Md_columnOf)], [], [], [(0, [0, 1]), (4, [0, 1, 2, 3]), (55, [0, 1, 2, 3])], [], 2)
def f_Md_takeOf : mm_F := fun args h => mm_ga [1, 1] args (mm_gd 12 args h (mm_run p_Md_takeOf (mm_fu + 1) 0 args [] h))
set_option maxRecDepth 100000 in
theorem e_Md_takeOf_0 (f : Nat) (t : Nat) (v1 : Int32) (h : mm_H) : mm_run p_Md_takeOf (f + 1) 0 [.ref t, .int v1] [] h =
  mm_run p_Md_takeOf f 4 [.ref t, .int v1, .int 0, .int 0] [] h := rfl
theorem e_Md_takeOf (t : Nat) (v1 : Int32) (h : mm_H) {fs : List Value} (hb : h t = some (.inr (12, fs))) : f_Md_takeOf [.ref t, .int v1] h =
  mm_run p_Md_takeOf mm_fu 4 [.ref t, .int v1, .int 0, .int 0] [] h := (mm_ga_is rfl).trans ((mm_gd_is hb).trans (e_Md_takeOf_0 mm_fu t v1 h))
set_option maxRecDepth 100000 in
theorem e_Md_takeOf_4 (f : Nat) (t : Nat) (v1 : Int32) (v2 : Int32) (v3 : Int32) (h : mm_H) : mm_run p_Md_takeOf (f + 1) 4 [.ref t, .int v1, .int v2, .int v3] [] h =
  mm_ci (f_Md_told [.ref t, .int 2] h) fun x2 h1 =>
  if v3 < x2 then
    if v2 = 0 then
      mm_ci (f_Md_told [.ref t, .int (9 + v3)] h1) fun x4 h3 =>
      if x4 = 2 then
        mm_ci (f_Md_told [.ref t, .int (13 + v3)] h3) fun x6 h5 =>
        if x6 = v1 then
          mm_run p_Md_takeOf f 4 [.ref t, .int v1, .int 1, .int (v3 + 1)] [] h5
        else
          mm_run p_Md_takeOf f 4 [.ref t, .int v1, .int 0, .int (v3 + 1)] [] h5
      else
        mm_run p_Md_takeOf f 4 [.ref t, .int v1, .int 0, .int (v3 + 1)] [] h3
    else
      mm_run p_Md_takeOf f 4 [.ref t, .int v1, .int 1, .int (v3 + 1)] [] h1
  else
    mm_run p_Md_takeOf f 55 [.ref t, .int v1, .int v2, .int 0] [] h1 := rfl
set_option maxRecDepth 100000 in
theorem e_Md_takeOf_55 (f : Nat) (t : Nat) (v1 : Int32) (v2 : Int32) (v3 : Int32) (h : mm_H) : mm_run p_Md_takeOf (f + 1) 55 [.ref t, .int v1, .int v2, .int v3] [] h =
  mm_ci (f_Md_told [.ref t, .int 3] h) fun x2 h1 =>
  if v3 < x2 then
    if v2 = 0 then
      mm_run p_Md_takeOf f 55 [.ref t, .int v1, .int v2, .int (v3 + 1)] [] h1
    else
      (mm_gi 12 8 h1 t).bind fun x3 =>
      if x3 = 0 then
        (mm_gr 12 4 h1 t).bind fun r4 =>
        (mm_gi 12 7 h1 t).bind fun x5 =>
        (mm_li h1 r4 x5).bind fun x6 =>
        if x6 = 2 then
          mm_ci (f_Md_told [.ref t, .int (17 + v3)] h1) fun x8 h7 =>
          mm_ci (f_Md_columnOf [.int x8, .int v1] h7) fun x10 h9 =>
          (mm_gr 12 6 h9 t).bind fun r11 =>
          (mm_gi 12 7 h9 t).bind fun x12 =>
          (mm_ll h9 r11 x12).bind fun l13 =>
          if (lg_cmp x10.toInt64 l13) = 0 then
            mm_cv (f_Md_wrong [.ref t, .int 3] h9) fun h14 =>
            mm_run p_Md_takeOf f 55 [.ref t, .int v1, .int v2, .int (v3 + 1)] [] h14
          else
            mm_run p_Md_takeOf f 55 [.ref t, .int v1, .int v2, .int (v3 + 1)] [] h9
        else
          mm_run p_Md_takeOf f 55 [.ref t, .int v1, .int v2, .int (v3 + 1)] [] h1
      else
        mm_run p_Md_takeOf f 55 [.ref t, .int v1, .int v2, .int (v3 + 1)] [] h1
  else
    mm_ci (f_Md_takeNumber [.ref t, .int 0, .int 999] h1) fun x16 h15 =>
    some (some (.int x16), h15) := rfl
set_option maxRecDepth 100000 in
theorem i_Md_takeOf (l : Launch) : mm_Imp l yX12_takeOf cX12_takeOf 4 (some .int) 3 f_Md_takeOf := mm_imp l (P := p_Md_takeOf) mm_cls_ok mm_sys_ok (by decide) (mm_Pok_of (List.forall_mem_cons.mpr ⟨k_X12_24, (List.forall_mem_cons.mpr ⟨k_X12_30, (List.forall_mem_cons.mpr ⟨k_X12_172, (List.forall_mem_cons.mpr ⟨k_X12_175, (fun _ h => absurd h List.not_mem_nil)⟩)⟩)⟩)⟩) (List.forall_mem_cons.mpr ⟨v_Md_wrong l q_1956 (by decide), (List.forall_mem_cons.mpr ⟨v_Md_takeNumber l q_1968 (by decide), (List.forall_mem_cons.mpr ⟨v_Md_told l q_1952 (by decide), (List.forall_mem_cons.mpr ⟨v_Md_columnOf l (Or.inl q_1765) (by decide), (fun _ h => absurd h List.not_mem_nil)⟩)⟩)⟩)⟩) (fun _ h => absurd h List.not_mem_nil) (fun _ h => absurd h List.not_mem_nil)) (by decide +kernel) rfl (cats := [1, 1]) (fun as h r e => ⟨(mm_ga_inv e).1, (mm_gd_inv (mm_ga_inv e).2).1⟩) rfl (by decide)
theorem v_Md_takeOf (l : Launch) {own : String} {i n0 : Nat} (hl : Cond.methodLink own i yX12_takeOf ∈ mm_tbl) (hn : 4 ≤ n0) : mm_cok l own n0 i (0, 1, 1, f_Md_takeOf) := Or.inr (Or.inr ⟨rfl, yX12_takeOf, cX12_takeOf, 4, (some .int), 3, 12, TX12, 27, i_Md_takeOf l, hn, by decide, by decide +kernel, rfl, fun _ _ _ e => (mm_gd_inv (mm_ga_inv e).2).2, hl, q_2002, q_90, q_179, q_2003⟩)
def p_Md_readRow : mm_P := ([(0, .aload_n 0, 1, 0), (1, .iconst 0, 1, 0), (2, .invokevirtual 245, 3, 0), (5, .istore_n 1, 1, 0), (6, .aload_n 0, 1, 0), (7, .iconst 1, 1, 1), (8, .invokevirtual 245, 3, 0), (11, .istore_n 2, 1, 0), (12, .aload_n 0, 1, 0), (13, .iconst 2, 1, 2), (14, .invokevirtual 245, 3, 0), (17, .istore_n 3, 1, 0), (18, .aload_n 0, 1, 0), (19, .getfield 175, 3, 0), (22, .ifCond .ne 33, 3, 0), (25, .aload_n 0, 1, 0), (26, .bipush 17, 2, 17), (28, .aload_n 0, 1, 0), (29, .iconst 3, 1, 3), (30, .invokevirtual 217, 3, 0), (33, .iadd, 1, 0), (34, .iload_n 1, 1, 0), (35, .iload_n 2, 1, 0), (36, .iload_n 3, 1, 0), (37, .invokestatic 248, 3, 0), (40, .invokevirtual 220, 3, 0), (43, .aload_n 0, 1, 0), (44, .iconst 3, 1, 3), (45, .aload_n 0, 1, 0), (46, .iconst 3, 1, 3), (47, .invokevirtual 217, 3, 0), (50, .iconst 1, 1, 1), (51, .iadd, 1, 0), (52, .invokevirtual 220, 3, 0), (55, .return_, 1, 0)], [(175, 12, 8, 0)], [(217, 0, 1, 1, f_Md_told), (220, 0, 2, 0, f_Md_is), (245, 0, 1, 1, f_Md_takeOf), (248, 1, 3, 1, f_Md_packed)], [], [], [(0, [0])], [], 0)
def f_Md_readRow : mm_F := fun args h => mm_ga [1] args (mm_gd 12 args h (mm_run p_Md_readRow (mm_fu + 1) 0 args [] h))
set_option maxRecDepth 100000 in
theorem e_Md_readRow_0 (f : Nat) (t : Nat) (h : mm_H) : mm_run p_Md_readRow (f + 1) 0 [.ref t] [] h =
  mm_ci (f_Md_takeOf [.ref t, .int 0] h) fun x2 h1 =>
  mm_ci (f_Md_takeOf [.ref t, .int 1] h1) fun x4 h3 =>
  mm_ci (f_Md_takeOf [.ref t, .int 2] h3) fun x6 h5 =>
  (mm_gi 12 8 h5 t).bind fun x7 =>
  if x7 = 0 then
    mm_ci (f_Md_told [.ref t, .int 3] h5) fun x9 h8 =>
    mm_ci (f_Md_packed [.int x2, .int x4, .int x6] h8) fun x11 h10 =>
    mm_cv (f_Md_is [.ref t, .int (17 + x9), .int x11] h10) fun h12 =>
    mm_ci (f_Md_told [.ref t, .int 3] h12) fun x14 h13 =>
    mm_cv (f_Md_is [.ref t, .int 3, .int (x14 + 1)] h13) fun h15 =>
    some (none, h15)
  else
    some (none, h5) := rfl
theorem e_Md_readRow (t : Nat) (h : mm_H) {fs : List Value} (hb : h t = some (.inr (12, fs))) : f_Md_readRow [.ref t] h =
  mm_ci (f_Md_takeOf [.ref t, .int 0] h) fun x2 h1 =>
  mm_ci (f_Md_takeOf [.ref t, .int 1] h1) fun x4 h3 =>
  mm_ci (f_Md_takeOf [.ref t, .int 2] h3) fun x6 h5 =>
  (mm_gi 12 8 h5 t).bind fun x7 =>
  if x7 = 0 then
    mm_ci (f_Md_told [.ref t, .int 3] h5) fun x9 h8 =>
    mm_ci (f_Md_packed [.int x2, .int x4, .int x6] h8) fun x11 h10 =>
    mm_cv (f_Md_is [.ref t, .int (17 + x9), .int x11] h10) fun h12 =>
    mm_ci (f_Md_told [.ref t, .int 3] h12) fun x14 h13 =>
    mm_cv (f_Md_is [.ref t, .int 3, .int (x14 + 1)] h13) fun h15 =>
    some (none, h15)
  else
    some (none, h5) := (mm_ga_is rfl).trans ((mm_gd_is hb).trans (e_Md_readRow_0 mm_fu t h))
set_option maxRecDepth 100000 in
theorem i_Md_readRow (l : Launch) : mm_Imp l yX12_readRow cX12_readRow 4 none 4 f_Md_readRow := mm_imp l (P := p_Md_readRow) mm_cls_ok mm_sys_ok (by decide) (mm_Pok_of (List.forall_mem_cons.mpr ⟨k_X12_175, (fun _ h => absurd h List.not_mem_nil)⟩) (List.forall_mem_cons.mpr ⟨v_Md_told l q_1952 (by decide), (List.forall_mem_cons.mpr ⟨v_Md_is l q_1960 (by decide), (List.forall_mem_cons.mpr ⟨v_Md_takeOf l q_2000 (by decide), (List.forall_mem_cons.mpr ⟨v_Md_packed l (Or.inl q_2004) (by decide), (fun _ h => absurd h List.not_mem_nil)⟩)⟩)⟩)⟩) (fun _ h => absurd h List.not_mem_nil) (fun _ h => absurd h List.not_mem_nil)) (by decide +kernel) rfl (cats := [1]) (fun as h r e => ⟨(mm_ga_inv e).1, (mm_gd_inv (mm_ga_inv e).2).1⟩) rfl (by decide)
theorem v_Md_readRow (l : Launch) {own : String} {i n0 : Nat} (hl : Cond.methodLink own i yX12_readRow ∈ mm_tbl) (hn : 5 ≤ n0) : mm_cok l own n0 i (0, 0, 0, f_Md_readRow) := Or.inr (Or.inr ⟨rfl, yX12_readRow, cX12_readRow, 4, none, 4, 12, TX12, 27, i_Md_readRow l, hn, by decide, by decide +kernel, rfl, fun _ _ _ e => (mm_gd_inv (mm_ga_inv e).2).2, hl, q_1998, q_89, q_179, q_1999⟩)
def p_Md_readPoint : mm_P := ([(0, .aload_n 0, 1, 0), (1, .iconst 4, 1, 4), (2, .invokevirtual 217, 3, 0), (5, .istore_n 1, 1, 0), (6, .aload_n 0, 1, 0), (7, .bipush 20, 2, 20), (9, .iconst 3, 1, 3), (10, .invokevirtual 239, 3, 0), (13, .istore_n 2, 1, 0), (14, .aload_n 0, 1, 0), (15, .bipush 27, 2, 27), (17, .invokevirtual 191, 3, 0), (20, .iconst 0, 1, 0), (21, .istore_n 3, 1, 0), (22, .iconst 0, 1, 0), (23, .istore 4, 2, 0), (25, .iload 4, 2, 0), (27, .aload_n 0, 1, 0), (28, .iconst 3, 1, 3), (29, .invokevirtual 217, 3, 0), (32, .if_icmp .ge 46, 3, 0), (35, .iload_n 3, 1, 0), (36, .ifCond .ne 30, 3, 0), (39, .aload_n 0, 1, 0), (40, .bipush 17, 2, 17), (42, .iload 4, 2, 0), (44, .iadd, 1, 0), (45, .invokevirtual 217, 3, 0), (48, .iconst 0, 1, 0), (49, .invokestatic 242, 3, 0), (52, .i2l, 1, 0), (53, .aload_n 0, 1, 0), (54, .getfield 30, 3, 0), (57, .aload_n 0, 1, 0), (58, .getfield 172, 3, 0), (61, .laload, 1, 0), (62, .lcmp, 1, 0), (63, .ifCond .ne 7, 3, 0), (66, .iconst 1, 1, 1), (67, .goto 4, 3, 0), (70, .iconst 0, 1, 0), (71, .istore_n 3, 1, 0), (72, .iinc 4 1, 3, 1), (75, .goto (-50), 3, 0), (78, .aload_n 0, 1, 0), (79, .getfield 175, 3, 0), (82, .ifCond .ne 25, 3, 0), (85, .aload_n 0, 1, 0), (86, .getfield 24, 3, 0), (89, .aload_n 0, 1, 0), (90, .getfield 172, 3, 0), (93, .iaload, 1, 0), (94, .iconst 2, 1, 2), (95, .if_icmp .ne 12, 3, 0), (98, .iload_n 3, 1, 0), (99, .ifCond .ne 8, 3, 0), (102, .aload_n 0, 1, 0), (103, .iconst 2, 1, 2), (104, .invokevirtual 181, 3, 0), (107, .aload_n 0, 1, 0), (108, .iconst 0, 1, 0), (109, .sipush 999, 3, 999), (112, .invokevirtual 194, 3, 0), (115, .istore 4, 2, 0), (117, .aload_n 0, 1, 0), (118, .getfield 175, 3, 0), (121, .ifCond .ne 30, 3, 0), (124, .aload_n 0, 1, 0), (125, .bipush 37, 2, 37), (127, .iload_n 1, 1, 0), (128, .iadd, 1, 0), (129, .iload_n 2, 1, 0), (130, .invokevirtual 220, 3, 0), (133, .aload_n 0, 1, 0), (134, .bipush 45, 2, 45), (136, .iload_n 1, 1, 0), (137, .iadd, 1, 0), (138, .iload 4, 2, 0), (140, .invokevirtual 220, 3, 0), (143, .aload_n 0, 1, 0), (144, .iconst 4, 1, 4), (145, .iload_n 1, 1, 0), (146, .iconst 1, 1, 1), (147, .iadd, 1, 0), (148, .invokevirtual 220, 3, 0), (151, .return_, 1, 0)], [(24, 12, 4, 4), (30, 12, 6, 4), (172, 12, 7, 0), (175, 12, 8, 0)], [(181, 0, 1, 0, f_Md_wrong), (191, 0, 1, 0, f_Md_takeWord), (194, 0, 2, 1, f_Md_takeNumber), (217, 0, 1, 1, f_Md_told), (220, 0, 2, 0, f_Md_is), (239, 0, 2, 1, f_Md_takeOne), (242, 1, 2, 1, f_Md_columnOf)], [], [], [(0, [0]), (25, [0, 1, 2, 3, 4]), (107, [0, 1, 2])], [], 0)
def f_Md_readPoint : mm_F := fun args h => mm_ga [1] args (mm_gd 12 args h (mm_run p_Md_readPoint (mm_fu + 1) 0 args [] h))
set_option maxRecDepth 100000 in
theorem e_Md_readPoint_0 (f : Nat) (t : Nat) (h : mm_H) : mm_run p_Md_readPoint (f + 1) 0 [.ref t] [] h =
  mm_ci (f_Md_told [.ref t, .int 4] h) fun x2 h1 =>
  mm_ci (f_Md_takeOne [.ref t, .int 20, .int 3] h1) fun x4 h3 =>
  mm_cv (f_Md_takeWord [.ref t, .int 27] h3) fun h5 =>
  mm_run p_Md_readPoint f 25 [.ref t, .int x2, .int x4, .int 0, .int 0] [] h5 := rfl
theorem e_Md_readPoint (t : Nat) (h : mm_H) {fs : List Value} (hb : h t = some (.inr (12, fs))) : f_Md_readPoint [.ref t] h =
  mm_ci (f_Md_told [.ref t, .int 4] h) fun x2 h1 =>
  mm_ci (f_Md_takeOne [.ref t, .int 20, .int 3] h1) fun x4 h3 =>
  mm_cv (f_Md_takeWord [.ref t, .int 27] h3) fun h5 =>
  mm_run p_Md_readPoint mm_fu 25 [.ref t, .int x2, .int x4, .int 0, .int 0] [] h5 := (mm_ga_is rfl).trans ((mm_gd_is hb).trans (e_Md_readPoint_0 mm_fu t h))
set_option maxRecDepth 100000 in
theorem e_Md_readPoint_25 (f : Nat) (t : Nat) (v1 : Int32) (v2 : Int32) (v3 : Int32) (v4 : Int32) (h : mm_H) : mm_run p_Md_readPoint (f + 1) 25 [.ref t, .int v1, .int v2, .int v3, .int v4] [] h =
  mm_ci (f_Md_told [.ref t, .int 3] h) fun x2 h1 =>
  if v4 < x2 then
    if v3 = 0 then
      mm_ci (f_Md_told [.ref t, .int (17 + v4)] h1) fun x4 h3 =>
      mm_ci (f_Md_columnOf [.int x4, .int 0] h3) fun x6 h5 =>
      (mm_gr 12 6 h5 t).bind fun r7 =>
      (mm_gi 12 7 h5 t).bind fun x8 =>
      (mm_ll h5 r7 x8).bind fun l9 =>
      if (lg_cmp x6.toInt64 l9) = 0 then
        mm_run p_Md_readPoint f 25 [.ref t, .int v1, .int v2, .int 1, .int (v4 + 1)] [] h5
      else
        mm_run p_Md_readPoint f 25 [.ref t, .int v1, .int v2, .int 0, .int (v4 + 1)] [] h5
    else
      mm_run p_Md_readPoint f 25 [.ref t, .int v1, .int v2, .int 1, .int (v4 + 1)] [] h1
  else
    (mm_gi 12 8 h1 t).bind fun x10 =>
    if x10 = 0 then
      (mm_gr 12 4 h1 t).bind fun r11 =>
      (mm_gi 12 7 h1 t).bind fun x12 =>
      (mm_li h1 r11 x12).bind fun x13 =>
      if x13 = 2 then
        if v3 = 0 then
          mm_cv (f_Md_wrong [.ref t, .int 2] h1) fun h14 =>
          mm_run p_Md_readPoint f 107 [.ref t, .int v1, .int v2] [] h14
        else
          mm_run p_Md_readPoint f 107 [.ref t, .int v1, .int v2] [] h1
      else
        mm_run p_Md_readPoint f 107 [.ref t, .int v1, .int v2] [] h1
    else
      mm_run p_Md_readPoint f 107 [.ref t, .int v1, .int v2] [] h1 := rfl
set_option maxRecDepth 100000 in
theorem e_Md_readPoint_107 (f : Nat) (t : Nat) (v1 : Int32) (v2 : Int32) (h : mm_H) : mm_run p_Md_readPoint (f + 1) 107 [.ref t, .int v1, .int v2] [] h =
  mm_ci (f_Md_takeNumber [.ref t, .int 0, .int 999] h) fun x2 h1 =>
  (mm_gi 12 8 h1 t).bind fun x3 =>
  if x3 = 0 then
    mm_cv (f_Md_is [.ref t, .int (37 + v1), .int v2] h1) fun h4 =>
    mm_cv (f_Md_is [.ref t, .int (45 + v1), .int x2] h4) fun h5 =>
    mm_cv (f_Md_is [.ref t, .int 4, .int (v1 + 1)] h5) fun h6 =>
    some (none, h6)
  else
    some (none, h1) := rfl
set_option maxRecDepth 100000 in
theorem i_Md_readPoint (l : Launch) : mm_Imp l yX12_readPoint cX12_readPoint 5 none 4 f_Md_readPoint := mm_imp l (P := p_Md_readPoint) mm_cls_ok mm_sys_ok (by decide) (mm_Pok_of (List.forall_mem_cons.mpr ⟨k_X12_24, (List.forall_mem_cons.mpr ⟨k_X12_30, (List.forall_mem_cons.mpr ⟨k_X12_172, (List.forall_mem_cons.mpr ⟨k_X12_175, (fun _ h => absurd h List.not_mem_nil)⟩)⟩)⟩)⟩) (List.forall_mem_cons.mpr ⟨v_Md_wrong l q_1956 (by decide), (List.forall_mem_cons.mpr ⟨v_Md_takeWord l q_1988 (by decide), (List.forall_mem_cons.mpr ⟨v_Md_takeNumber l q_1968 (by decide), (List.forall_mem_cons.mpr ⟨v_Md_told l q_1952 (by decide), (List.forall_mem_cons.mpr ⟨v_Md_is l q_1960 (by decide), (List.forall_mem_cons.mpr ⟨v_Md_takeOne l q_1984 (by decide), (List.forall_mem_cons.mpr ⟨v_Md_columnOf l (Or.inl q_1765) (by decide), (fun _ h => absurd h List.not_mem_nil)⟩)⟩)⟩)⟩)⟩)⟩)⟩) (fun _ h => absurd h List.not_mem_nil) (fun _ h => absurd h List.not_mem_nil)) (by decide +kernel) rfl (cats := [1]) (fun as h r e => ⟨(mm_ga_inv e).1, (mm_gd_inv (mm_ga_inv e).2).1⟩) rfl (by decide)
theorem v_Md_readPoint (l : Launch) {own : String} {i n0 : Nat} (hl : Cond.methodLink own i yX12_readPoint ∈ mm_tbl) (hn : 5 ≤ n0) : mm_cok l own n0 i (0, 0, 0, f_Md_readPoint) := Or.inr (Or.inr ⟨rfl, yX12_readPoint, cX12_readPoint, 5, none, 4, 12, TX12, 27, i_Md_readPoint l, hn, by decide, by decide +kernel, rfl, fun _ _ _ e => (mm_gd_inv (mm_ga_inv e).2).2, hl, q_2009, q_91, q_179, q_2010⟩)
def p_Md_isLimitHere : mm_P := ([(0, .aload_n 0, 1, 0), (1, .bipush 23, 2, 23), (3, .iconst 3, 1, 3), (4, .invokevirtual 198, 3, 0), (7, .ifCond .ge 34, 3, 0), (10, .aload_n 0, 1, 0), (11, .bipush 32, 2, 32), (13, .invokevirtual 184, 3, 0), (16, .ifCond .ne 25, 3, 0), (19, .iload_n 1, 1, 0), (20, .ifCond .ne 25, 3, 0), (23, .aload_n 0, 1, 0), (24, .bipush 33, 2, 33), (26, .invokevirtual 184, 3, 0), (29, .ifCond .ne 12, 3, 0), (32, .aload_n 0, 1, 0), (33, .bipush 34, 2, 34), (35, .invokevirtual 184, 3, 0), (38, .ifCond .eq 7, 3, 0), (41, .iconst 1, 1, 1), (42, .goto 4, 3, 0), (45, .iconst 0, 1, 0), (46, .ireturn, 1, 0)], [], [(184, 0, 1, 1, f_Md_isWord), (198, 0, 2, 1, f_Md_wordHere)], [], [], [(0, [0, 1])], [], 1)
def f_Md_isLimitHere : mm_F := fun args h => mm_ga [1, 1] args (mm_gd 12 args h (mm_run p_Md_isLimitHere (mm_fu + 1) 0 args [] h))
set_option maxRecDepth 100000 in
theorem e_Md_isLimitHere_0 (f : Nat) (t : Nat) (v1 : Int32) (h : mm_H) : mm_run p_Md_isLimitHere (f + 1) 0 [.ref t, .int v1] [] h =
  mm_ci (f_Md_wordHere [.ref t, .int 23, .int 3] h) fun x2 h1 =>
  if x2 < 0 then
    mm_ci (f_Md_isWord [.ref t, .int 32] h1) fun x4 h3 =>
    if x4 = 0 then
      if v1 = 0 then
        mm_ci (f_Md_isWord [.ref t, .int 33] h3) fun x6 h5 =>
        if x6 = 0 then
          mm_ci (f_Md_isWord [.ref t, .int 34] h5) fun x8 h7 =>
          if x8 = 0 then
            some (some (.int 0), h7)
          else
            some (some (.int 1), h7)
        else
          some (some (.int 1), h5)
      else
        some (some (.int 0), h3)
    else
      some (some (.int 1), h3)
  else
    some (some (.int 1), h1) := rfl
theorem e_Md_isLimitHere (t : Nat) (v1 : Int32) (h : mm_H) {fs : List Value} (hb : h t = some (.inr (12, fs))) : f_Md_isLimitHere [.ref t, .int v1] h =
  mm_ci (f_Md_wordHere [.ref t, .int 23, .int 3] h) fun x2 h1 =>
  if x2 < 0 then
    mm_ci (f_Md_isWord [.ref t, .int 32] h1) fun x4 h3 =>
    if x4 = 0 then
      if v1 = 0 then
        mm_ci (f_Md_isWord [.ref t, .int 33] h3) fun x6 h5 =>
        if x6 = 0 then
          mm_ci (f_Md_isWord [.ref t, .int 34] h5) fun x8 h7 =>
          if x8 = 0 then
            some (some (.int 0), h7)
          else
            some (some (.int 1), h7)
        else
          some (some (.int 1), h5)
      else
        some (some (.int 0), h3)
    else
      some (some (.int 1), h3)
  else
    some (some (.int 1), h1) := (mm_ga_is rfl).trans ((mm_gd_is hb).trans (e_Md_isLimitHere_0 mm_fu t v1 h))
set_option maxRecDepth 100000 in
theorem i_Md_isLimitHere (l : Launch) : mm_Imp l yX12_isLimitHere cX12_isLimitHere 2 (some .boolean) 3 f_Md_isLimitHere := mm_imp l (P := p_Md_isLimitHere) mm_cls_ok mm_sys_ok (by decide) (mm_Pok_of (fun _ h => absurd h List.not_mem_nil) (List.forall_mem_cons.mpr ⟨v_Md_isWord l q_1948 (by decide), (List.forall_mem_cons.mpr ⟨v_Md_wordHere l q_1944 (by decide), (fun _ h => absurd h List.not_mem_nil)⟩)⟩) (fun _ h => absurd h List.not_mem_nil) (fun _ h => absurd h List.not_mem_nil)) (by decide +kernel) rfl (cats := [1, 1]) (fun as h r e => ⟨(mm_ga_inv e).1, (mm_gd_inv (mm_ga_inv e).2).1⟩) rfl (by decide)
theorem v_Md_isLimitHere (l : Launch) {own : String} {i n0 : Nat} (hl : Cond.methodLink own i yX12_isLimitHere ∈ mm_tbl) (hn : 4 ≤ n0) : mm_cok l own n0 i (0, 1, 1, f_Md_isLimitHere) := Or.inr (Or.inr ⟨rfl, yX12_isLimitHere, cX12_isLimitHere, 2, (some .boolean), 3, 12, TX12, 27, i_Md_isLimitHere l, hn, by decide, by decide +kernel, rfl, fun _ _ _ e => (mm_gd_inv (mm_ga_inv e).2).2, hl, q_2021, q_94, q_179, q_2022⟩)
def p_Md_readColumn : mm_P := ([(0, .aload_n 0, 1, 0), (1, .bipush 28, 2, 28), (3, .invokevirtual 187, 3, 0), (6, .ifCond .eq 49, 3, 0), (9, .aload_n 0, 1, 0), (10, .getfield 114, 3, 0), (13, .iload_n 1, 1, 0), (14, .iconst 2, 1, 2), (15, .iadd, 1, 0), (16, .iconst 0, 1, 0), (17, .iastore, 1, 0), (18, .aload_n 0, 1, 0), (19, .getfield 114, 3, 0), (22, .iload_n 1, 1, 0), (23, .iconst 4, 1, 4), (24, .iadd, 1, 0), (25, .aload_n 0, 1, 0), (26, .iconst 0, 1, 0), (27, .sipush 999, 3, 999), (30, .invokevirtual 194, 3, 0), (33, .iastore, 1, 0), (34, .aload_n 0, 1, 0), (35, .getfield 114, 3, 0), (38, .iload_n 1, 1, 0), (39, .iconst 5, 1, 5), (40, .iadd, 1, 0), (41, .aload_n 0, 1, 0), (42, .bipush 29, 2, 29), (44, .iconst 0, 1, 0), (45, .sipush 999, 3, 999), (48, .invokevirtual 262, 3, 0), (51, .iastore, 1, 0), (52, .goto 70, 3, 0), (55, .aload_n 0, 1, 0), (56, .bipush 30, 2, 30), (58, .invokevirtual 187, 3, 0), (61, .ifCond .eq 31, 3, 0), (64, .aload_n 0, 1, 0), (65, .getfield 114, 3, 0), (68, .iload_n 1, 1, 0), (69, .iconst 2, 1, 2), (70, .iadd, 1, 0), (71, .iconst 1, 1, 1), (72, .iastore, 1, 0), (73, .aload_n 0, 1, 0), (74, .getfield 114, 3, 0), (77, .iload_n 1, 1, 0), (78, .iconst 4, 1, 4), (79, .iadd, 1, 0), (80, .aload_n 0, 1, 0), (81, .iconst 0, 1, 0), (82, .sipush 999, 3, 999), (85, .invokevirtual 194, 3, 0), (88, .iastore, 1, 0), (89, .goto 33, 3, 0), (92, .aload_n 0, 1, 0), (93, .bipush 31, 2, 31), (95, .invokevirtual 191, 3, 0), (98, .aload_n 0, 1, 0), (99, .getfield 114, 3, 0), (102, .iload_n 1, 1, 0), (103, .iconst 2, 1, 2), (104, .iadd, 1, 0), (105, .iconst 2, 1, 2), (106, .iastore, 1, 0), (107, .aload_n 0, 1, 0), (108, .getfield 114, 3, 0), (111, .iload_n 1, 1, 0), (112, .iconst 4, 1, 4), (113, .iadd, 1, 0), (114, .aload_n 0, 1, 0), (115, .bipush 23, 2, 23), (117, .iconst 3, 1, 3), (118, .invokevirtual 239, 3, 0), (121, .iastore, 1, 0), (122, .return_, 1, 0)], [(114, 12, 11, 4)], [(187, 0, 1, 1, f_Md_hasWord), (191, 0, 1, 0, f_Md_takeWord), (194, 0, 2, 1, f_Md_takeNumber), (239, 0, 2, 1, f_Md_takeOne), (262, 0, 3, 1, f_Md_takeAfter)], [], [], [(0, [0, 1])], [], 0)
def f_Md_readColumn : mm_F := fun args h => mm_ga [1, 1] args (mm_gd 12 args h (mm_run p_Md_readColumn (mm_fu + 1) 0 args [] h))
set_option maxRecDepth 100000 in
theorem e_Md_readColumn_0 (f : Nat) (t : Nat) (v1 : Int32) (h : mm_H) : mm_run p_Md_readColumn (f + 1) 0 [.ref t, .int v1] [] h =
  mm_ci (f_Md_hasWord [.ref t, .int 28] h) fun x2 h1 =>
  if x2 = 0 then
    mm_ci (f_Md_hasWord [.ref t, .int 30] h1) fun x4 h3 =>
    if x4 = 0 then
      mm_cv (f_Md_takeWord [.ref t, .int 31] h3) fun h5 =>
      (mm_gr 12 11 h5 t).bind fun r6 =>
      (mm_si h5 r6 (v1 + 2) 2).bind fun h7 =>
      (mm_gr 12 11 h7 t).bind fun r8 =>
      mm_ci (f_Md_takeOne [.ref t, .int 23, .int 3] h7) fun x10 h9 =>
      (mm_si h9 r8 (v1 + 4) x10).bind fun h11 =>
      some (none, h11)
    else
      (mm_gr 12 11 h3 t).bind fun r12 =>
      (mm_si h3 r12 (v1 + 2) 1).bind fun h13 =>
      (mm_gr 12 11 h13 t).bind fun r14 =>
      mm_ci (f_Md_takeNumber [.ref t, .int 0, .int 999] h13) fun x16 h15 =>
      (mm_si h15 r14 (v1 + 4) x16).bind fun h17 =>
      some (none, h17)
  else
    (mm_gr 12 11 h1 t).bind fun r18 =>
    (mm_si h1 r18 (v1 + 2) 0).bind fun h19 =>
    (mm_gr 12 11 h19 t).bind fun r20 =>
    mm_ci (f_Md_takeNumber [.ref t, .int 0, .int 999] h19) fun x22 h21 =>
    (mm_si h21 r20 (v1 + 4) x22).bind fun h23 =>
    (mm_gr 12 11 h23 t).bind fun r24 =>
    mm_ci (f_Md_takeAfter [.ref t, .int 29, .int 0, .int 999] h23) fun x26 h25 =>
    (mm_si h25 r24 (v1 + 5) x26).bind fun h27 =>
    some (none, h27) := rfl
theorem e_Md_readColumn (t : Nat) (v1 : Int32) (h : mm_H) {fs : List Value} (hb : h t = some (.inr (12, fs))) : f_Md_readColumn [.ref t, .int v1] h =
  mm_ci (f_Md_hasWord [.ref t, .int 28] h) fun x2 h1 =>
  if x2 = 0 then
    mm_ci (f_Md_hasWord [.ref t, .int 30] h1) fun x4 h3 =>
    if x4 = 0 then
      mm_cv (f_Md_takeWord [.ref t, .int 31] h3) fun h5 =>
      (mm_gr 12 11 h5 t).bind fun r6 =>
      (mm_si h5 r6 (v1 + 2) 2).bind fun h7 =>
      (mm_gr 12 11 h7 t).bind fun r8 =>
      mm_ci (f_Md_takeOne [.ref t, .int 23, .int 3] h7) fun x10 h9 =>
      (mm_si h9 r8 (v1 + 4) x10).bind fun h11 =>
      some (none, h11)
    else
      (mm_gr 12 11 h3 t).bind fun r12 =>
      (mm_si h3 r12 (v1 + 2) 1).bind fun h13 =>
      (mm_gr 12 11 h13 t).bind fun r14 =>
      mm_ci (f_Md_takeNumber [.ref t, .int 0, .int 999] h13) fun x16 h15 =>
      (mm_si h15 r14 (v1 + 4) x16).bind fun h17 =>
      some (none, h17)
  else
    (mm_gr 12 11 h1 t).bind fun r18 =>
    (mm_si h1 r18 (v1 + 2) 0).bind fun h19 =>
    (mm_gr 12 11 h19 t).bind fun r20 =>
    mm_ci (f_Md_takeNumber [.ref t, .int 0, .int 999] h19) fun x22 h21 =>
    (mm_si h21 r20 (v1 + 4) x22).bind fun h23 =>
    (mm_gr 12 11 h23 t).bind fun r24 =>
    mm_ci (f_Md_takeAfter [.ref t, .int 29, .int 0, .int 999] h23) fun x26 h25 =>
    (mm_si h25 r24 (v1 + 5) x26).bind fun h27 =>
    some (none, h27) := (mm_ga_is rfl).trans ((mm_gd_is hb).trans (e_Md_readColumn_0 mm_fu t v1 h))
set_option maxRecDepth 100000 in
theorem i_Md_readColumn (l : Launch) : mm_Imp l yX12_readColumn cX12_readColumn 2 none 5 f_Md_readColumn := mm_imp l (P := p_Md_readColumn) mm_cls_ok mm_sys_ok (by decide) (mm_Pok_of (List.forall_mem_cons.mpr ⟨k_X12_114, (fun _ h => absurd h List.not_mem_nil)⟩) (List.forall_mem_cons.mpr ⟨v_Md_hasWord l q_1992 (by decide), (List.forall_mem_cons.mpr ⟨v_Md_takeWord l q_1988 (by decide), (List.forall_mem_cons.mpr ⟨v_Md_takeNumber l q_1968 (by decide), (List.forall_mem_cons.mpr ⟨v_Md_takeOne l q_1984 (by decide), (List.forall_mem_cons.mpr ⟨v_Md_takeAfter l q_2027 (by decide), (fun _ h => absurd h List.not_mem_nil)⟩)⟩)⟩)⟩)⟩) (fun _ h => absurd h List.not_mem_nil) (fun _ h => absurd h List.not_mem_nil)) (by decide +kernel) rfl (cats := [1, 1]) (fun as h r e => ⟨(mm_ga_inv e).1, (mm_gd_inv (mm_ga_inv e).2).1⟩) rfl (by decide)
theorem v_Md_readColumn (l : Launch) {own : String} {i n0 : Nat} (hl : Cond.methodLink own i yX12_readColumn ∈ mm_tbl) (hn : 6 ≤ n0) : mm_cok l own n0 i (0, 1, 0, f_Md_readColumn) := Or.inr (Or.inr ⟨rfl, yX12_readColumn, cX12_readColumn, 2, none, 5, 12, TX12, 27, i_Md_readColumn l, hn, by decide, by decide +kernel, rfl, fun _ _ _ e => (mm_gd_inv (mm_ga_inv e).2).2, hl, q_2025, q_95, q_179, q_2026⟩)
def p_Md_readLimit : mm_P := ([(0, .aload_n 0, 1, 0), (1, .getfield 114, 3, 0), (4, .iload_n 2, 1, 0), (5, .iaload, 1, 0), (6, .istore 4, 2, 0), (8, .aload_n 0, 1, 0), (9, .iload_n 1, 1, 0), (10, .invokevirtual 256, 3, 0), (13, .ifCond .ne 20, 3, 0), (16, .aload_n 0, 1, 0), (17, .bipush 35, 2, 35), (19, .invokevirtual 184, 3, 0), (22, .ifCond .ne 11, 3, 0), (25, .aload_n 0, 1, 0), (26, .iconst 1, 1, 1), (27, .invokevirtual 181, 3, 0), (30, .goto 15, 3, 0), (33, .iload 4, 2, 0), (35, .bipush 12, 2, 12), (37, .if_icmp .ne 8, 3, 0), (40, .aload_n 0, 1, 0), (41, .iconst 5, 1, 5), (42, .invokevirtual 181, 3, 0), (45, .aload_n 0, 1, 0), (46, .bipush 35, 2, 35), (48, .invokevirtual 187, 3, 0), (51, .istore 5, 2, 0), (53, .aload_n 0, 1, 0), (54, .iload_n 1, 1, 0), (55, .invokevirtual 256, 3, 0), (58, .ifCond .ne 8, 3, 0), (61, .aload_n 0, 1, 0), (62, .iconst 1, 1, 1), (63, .invokevirtual 181, 3, 0), (66, .aload_n 0, 1, 0), (67, .getfield 175, 3, 0), (70, .ifCond .le 4, 3, 0), (73, .return_, 1, 0), (74, .iload_n 2, 1, 0), (75, .iconst 1, 1, 1), (76, .iadd, 1, 0), (77, .bipush 6, 2, 6), (79, .iload 4, 2, 0), (81, .imul, 1, 0), (82, .iadd, 1, 0), (83, .istore 6, 2, 0), (85, .aload_n 0, 1, 0), (86, .getfield 114, 3, 0), (89, .iload 6, 2, 0), (91, .iload_n 3, 1, 0), (92, .iastore, 1, 0), (93, .aload_n 0, 1, 0), (94, .getfield 114, 3, 0), (97, .iload 6, 2, 0), (99, .iconst 1, 1, 1), (100, .iadd, 1, 0), (101, .iload 5, 2, 0), (103, .ifCond .eq 7, 3, 0), (106, .iconst 1, 1, 1), (107, .goto 4, 3, 0), (110, .iconst 0, 1, 0), (111, .iastore, 1, 0), (112, .aload_n 0, 1, 0), (113, .bipush 23, 2, 23), (115, .iconst 3, 1, 3), (116, .invokevirtual 198, 3, 0), (119, .istore 7, 2, 0), (121, .iload 7, 2, 0), (123, .ifCond .lt 33, 3, 0), (126, .aload_n 0, 1, 0), (127, .dup, 1, 0), (128, .getfield 172, 3, 0), (131, .iconst 1, 1, 1), (132, .iadd, 1, 0), (133, .putfield 172, 3, 0), (136, .aload_n 0, 1, 0), (137, .getfield 114, 3, 0), (140, .iload 6, 2, 0), (142, .iconst 3, 1, 3), (143, .iadd, 1, 0), (144, .iload 7, 2, 0), (146, .iastore, 1, 0), (147, .aload_n 0, 1, 0), (148, .iload 6, 2, 0), (150, .invokevirtual 259, 3, 0), (153, .goto 99, 3, 0), (156, .aload_n 0, 1, 0), (157, .bipush 32, 2, 32), (159, .invokevirtual 187, 3, 0), (162, .ifCond .eq 32, 3, 0), (165, .aload_n 0, 1, 0), (166, .getfield 114, 3, 0), (169, .iload 6, 2, 0), (171, .iconst 2, 1, 2), (172, .iadd, 1, 0), (173, .iconst 3, 1, 3), (174, .iastore, 1, 0), (175, .aload_n 0, 1, 0), (176, .getfield 114, 3, 0), (179, .iload 6, 2, 0), (181, .iconst 4, 1, 4), (182, .iadd, 1, 0), (183, .aload_n 0, 1, 0), (184, .iconst 2, 1, 2), (185, .bipush 9, 2, 9), (187, .invokevirtual 194, 3, 0), (190, .iastore, 1, 0), (191, .goto 61, 3, 0), (194, .aload_n 0, 1, 0), (195, .bipush 33, 2, 33), (197, .invokevirtual 187, 3, 0), (200, .ifCond .eq 32, 3, 0), (203, .aload_n 0, 1, 0), (204, .getfield 114, 3, 0), (207, .iload 6, 2, 0), (209, .iconst 2, 1, 2), (210, .iadd, 1, 0), (211, .iconst 4, 1, 4), (212, .iastore, 1, 0), (213, .aload_n 0, 1, 0), (214, .getfield 114, 3, 0), (217, .iload 6, 2, 0), (219, .iconst 3, 1, 3), (220, .iadd, 1, 0), (221, .aload_n 0, 1, 0), (222, .bipush 23, 2, 23), (224, .iconst 3, 1, 3), (225, .invokevirtual 239, 3, 0), (228, .iastore, 1, 0), (229, .goto 23, 3, 0), (232, .aload_n 0, 1, 0), (233, .getfield 114, 3, 0), (236, .iload 6, 2, 0), (238, .iconst 2, 1, 2), (239, .iadd, 1, 0), (240, .iconst 5, 1, 5), (241, .iastore, 1, 0), (242, .aload_n 0, 1, 0), (243, .dup, 1, 0), (244, .getfield 172, 3, 0), (247, .iconst 1, 1, 1), (248, .iadd, 1, 0), (249, .putfield 172, 3, 0), (252, .aload_n 0, 1, 0), (253, .getfield 114, 3, 0), (256, .iload_n 2, 1, 0), (257, .dup2, 1, 0), (258, .iaload, 1, 0), (259, .aload_n 0, 1, 0), (260, .getfield 175, 3, 0), (263, .ifCond .ne 7, 3, 0), (266, .iconst 1, 1, 1), (267, .goto 4, 3, 0), (270, .iconst 0, 1, 0), (271, .iadd, 1, 0), (272, .iastore, 1, 0), (273, .return_, 1, 0)], [(114, 12, 11, 4), (172, 12, 7, 0), (175, 12, 8, 0)], [(181, 0, 1, 0, f_Md_wrong), (184, 0, 1, 1, f_Md_isWord), (187, 0, 1, 1, f_Md_hasWord), (194, 0, 2, 1, f_Md_takeNumber), (198, 0, 2, 1, f_Md_wordHere), (239, 0, 2, 1, f_Md_takeOne), (256, 0, 1, 1, f_Md_isLimitHere), (259, 0, 1, 0, f_Md_readColumn)], [], [], [(0, [0, 1, 2, 3]), (45, [0, 1, 2, 3, 4]), (111, [0, 2, 6]), (252, [0, 2])], [], 0)
def f_Md_readLimit : mm_F := fun args h => mm_ga [1, 1, 1, 1] args (mm_gd 12 args h (mm_run p_Md_readLimit (mm_fu + 1) 0 args [] h))
set_option maxRecDepth 100000 in
theorem e_Md_readLimit_0 (f : Nat) (t : Nat) (v1 : Int32) (v2 : Int32) (v3 : Int32) (h : mm_H) : mm_run p_Md_readLimit (f + 1) 0 [.ref t, .int v1, .int v2, .int v3] [] h =
  (mm_gr 12 11 h t).bind fun r1 =>
  (mm_li h r1 v2).bind fun x2 =>
  mm_ci (f_Md_isLimitHere [.ref t, .int v1] h) fun x4 h3 =>
  if x4 = 0 then
    mm_ci (f_Md_isWord [.ref t, .int 35] h3) fun x6 h5 =>
    if x6 = 0 then
      mm_cv (f_Md_wrong [.ref t, .int 1] h5) fun h7 =>
      mm_run p_Md_readLimit f 45 [.ref t, .int v1, .int v2, .int v3, .int x2] [] h7
    else
      if x2 = 12 then
        mm_cv (f_Md_wrong [.ref t, .int 5] h5) fun h8 =>
        mm_run p_Md_readLimit f 45 [.ref t, .int v1, .int v2, .int v3, .int x2] [] h8
      else
        mm_run p_Md_readLimit f 45 [.ref t, .int v1, .int v2, .int v3, .int x2] [] h5
  else
    if x2 = 12 then
      mm_cv (f_Md_wrong [.ref t, .int 5] h3) fun h9 =>
      mm_run p_Md_readLimit f 45 [.ref t, .int v1, .int v2, .int v3, .int x2] [] h9
    else
      mm_run p_Md_readLimit f 45 [.ref t, .int v1, .int v2, .int v3, .int x2] [] h3 := rfl
theorem e_Md_readLimit (t : Nat) (v1 : Int32) (v2 : Int32) (v3 : Int32) (h : mm_H) {fs : List Value} (hb : h t = some (.inr (12, fs))) : f_Md_readLimit [.ref t, .int v1, .int v2, .int v3] h =
  (mm_gr 12 11 h t).bind fun r1 =>
  (mm_li h r1 v2).bind fun x2 =>
  mm_ci (f_Md_isLimitHere [.ref t, .int v1] h) fun x4 h3 =>
  if x4 = 0 then
    mm_ci (f_Md_isWord [.ref t, .int 35] h3) fun x6 h5 =>
    if x6 = 0 then
      mm_cv (f_Md_wrong [.ref t, .int 1] h5) fun h7 =>
      mm_run p_Md_readLimit mm_fu 45 [.ref t, .int v1, .int v2, .int v3, .int x2] [] h7
    else
      if x2 = 12 then
        mm_cv (f_Md_wrong [.ref t, .int 5] h5) fun h8 =>
        mm_run p_Md_readLimit mm_fu 45 [.ref t, .int v1, .int v2, .int v3, .int x2] [] h8
      else
        mm_run p_Md_readLimit mm_fu 45 [.ref t, .int v1, .int v2, .int v3, .int x2] [] h5
  else
    if x2 = 12 then
      mm_cv (f_Md_wrong [.ref t, .int 5] h3) fun h9 =>
      mm_run p_Md_readLimit mm_fu 45 [.ref t, .int v1, .int v2, .int v3, .int x2] [] h9
    else
      mm_run p_Md_readLimit mm_fu 45 [.ref t, .int v1, .int v2, .int v3, .int x2] [] h3 := (mm_ga_is rfl).trans ((mm_gd_is hb).trans (e_Md_readLimit_0 mm_fu t v1 v2 v3 h))
set_option maxRecDepth 100000 in
theorem e_Md_readLimit_45 (f : Nat) (t : Nat) (v1 : Int32) (v2 : Int32) (v3 : Int32) (v4 : Int32) (h : mm_H) : mm_run p_Md_readLimit (f + 1) 45 [.ref t, .int v1, .int v2, .int v3, .int v4] [] h =
  mm_ci (f_Md_hasWord [.ref t, .int 35] h) fun x2 h1 =>
  mm_ci (f_Md_isLimitHere [.ref t, .int v1] h1) fun x4 h3 =>
  if x4 = 0 then
    mm_cv (f_Md_wrong [.ref t, .int 1] h3) fun h5 =>
    (mm_gi 12 8 h5 t).bind fun x6 =>
    if (0 : Int32) < x6 then
      some (none, h5)
    else
      (mm_gr 12 11 h5 t).bind fun r7 =>
      (mm_si h5 r7 ((v2 + 1) + (6 * v4)) v3).bind fun h8 =>
      (mm_gr 12 11 h8 t).bind fun r9 =>
      if x2 = 0 then
        mm_run p_Md_readLimit f 111 [.ref t, .int v2, .int ((v2 + 1) + (6 * v4))] [.int 0, .int (((v2 + 1) + (6 * v4)) + 1), .ref r9] h8
      else
        mm_run p_Md_readLimit f 111 [.ref t, .int v2, .int ((v2 + 1) + (6 * v4))] [.int 1, .int (((v2 + 1) + (6 * v4)) + 1), .ref r9] h8
  else
    (mm_gi 12 8 h3 t).bind fun x10 =>
    if (0 : Int32) < x10 then
      some (none, h3)
    else
      (mm_gr 12 11 h3 t).bind fun r11 =>
      (mm_si h3 r11 ((v2 + 1) + (6 * v4)) v3).bind fun h12 =>
      (mm_gr 12 11 h12 t).bind fun r13 =>
      if x2 = 0 then
        mm_run p_Md_readLimit f 111 [.ref t, .int v2, .int ((v2 + 1) + (6 * v4))] [.int 0, .int (((v2 + 1) + (6 * v4)) + 1), .ref r13] h12
      else
        mm_run p_Md_readLimit f 111 [.ref t, .int v2, .int ((v2 + 1) + (6 * v4))] [.int 1, .int (((v2 + 1) + (6 * v4)) + 1), .ref r13] h12 := rfl
set_option maxRecDepth 100000 in
theorem e_Md_readLimit_111 (f : Nat) (t : Nat) (v2 : Int32) (v6 : Int32) (s0 : Int32) (s1 : Int32) (s2 : Nat) (h : mm_H) : mm_run p_Md_readLimit (f + 1) 111 [.ref t, .int v2, .int v6] [.int s0, .int s1, .ref s2] h =
  (mm_si h s2 s1 s0).bind fun h1 =>
  mm_ci (f_Md_wordHere [.ref t, .int 23, .int 3] h1) fun x3 h2 =>
  if x3 < 0 then
    mm_ci (f_Md_hasWord [.ref t, .int 32] h2) fun x5 h4 =>
    if x5 = 0 then
      mm_ci (f_Md_hasWord [.ref t, .int 33] h4) fun x7 h6 =>
      if x7 = 0 then
        (mm_gr 12 11 h6 t).bind fun r8 =>
        (mm_si h6 r8 (v6 + 2) 5).bind fun h9 =>
        (mm_gi 12 7 h9 t).bind fun x10 =>
        (mm_pf 12 7 (.int (x10 + 1)) h9 t).bind fun h11 =>
        mm_run p_Md_readLimit f 252 [.ref t, .int v2] [] h11
      else
        (mm_gr 12 11 h6 t).bind fun r12 =>
        (mm_si h6 r12 (v6 + 2) 4).bind fun h13 =>
        (mm_gr 12 11 h13 t).bind fun r14 =>
        mm_ci (f_Md_takeOne [.ref t, .int 23, .int 3] h13) fun x16 h15 =>
        (mm_si h15 r14 (v6 + 3) x16).bind fun h17 =>
        mm_run p_Md_readLimit f 252 [.ref t, .int v2] [] h17
    else
      (mm_gr 12 11 h4 t).bind fun r18 =>
      (mm_si h4 r18 (v6 + 2) 3).bind fun h19 =>
      (mm_gr 12 11 h19 t).bind fun r20 =>
      mm_ci (f_Md_takeNumber [.ref t, .int 2, .int 9] h19) fun x22 h21 =>
      (mm_si h21 r20 (v6 + 4) x22).bind fun h23 =>
      mm_run p_Md_readLimit f 252 [.ref t, .int v2] [] h23
  else
    (mm_gi 12 7 h2 t).bind fun x24 =>
    (mm_pf 12 7 (.int (x24 + 1)) h2 t).bind fun h25 =>
    (mm_gr 12 11 h25 t).bind fun r26 =>
    (mm_si h25 r26 (v6 + 3) x3).bind fun h27 =>
    mm_cv (f_Md_readColumn [.ref t, .int v6] h27) fun h28 =>
    mm_run p_Md_readLimit f 252 [.ref t, .int v2] [] h28 := rfl
set_option maxRecDepth 100000 in
theorem e_Md_readLimit_252 (f : Nat) (t : Nat) (v2 : Int32) (h : mm_H) : mm_run p_Md_readLimit (f + 1) 252 [.ref t, .int v2] [] h =
  (mm_gr 12 11 h t).bind fun r1 =>
  (mm_li h r1 v2).bind fun x2 =>
  (mm_gi 12 8 h t).bind fun x3 =>
  if x3 = 0 then
    (mm_si h r1 v2 (x2 + 1)).bind fun h4 =>
    some (none, h4)
  else
    (mm_si h r1 v2 (x2 + 0)).bind fun h5 =>
    some (none, h5) := rfl
set_option maxRecDepth 100000 in
theorem i_Md_readLimit (l : Launch) : mm_Imp l yX12_readLimit cX12_readLimit 8 none 6 f_Md_readLimit := mm_imp l (P := p_Md_readLimit) mm_cls_ok mm_sys_ok (by decide) (mm_Pok_of (List.forall_mem_cons.mpr ⟨k_X12_114, (List.forall_mem_cons.mpr ⟨k_X12_172, (List.forall_mem_cons.mpr ⟨k_X12_175, (fun _ h => absurd h List.not_mem_nil)⟩)⟩)⟩) (List.forall_mem_cons.mpr ⟨v_Md_wrong l q_1956 (by decide), (List.forall_mem_cons.mpr ⟨v_Md_isWord l q_1948 (by decide), (List.forall_mem_cons.mpr ⟨v_Md_hasWord l q_1992 (by decide), (List.forall_mem_cons.mpr ⟨v_Md_takeNumber l q_1968 (by decide), (List.forall_mem_cons.mpr ⟨v_Md_wordHere l q_1944 (by decide), (List.forall_mem_cons.mpr ⟨v_Md_takeOne l q_1984 (by decide), (List.forall_mem_cons.mpr ⟨v_Md_isLimitHere l q_2019 (by decide), (List.forall_mem_cons.mpr ⟨v_Md_readColumn l q_2023 (by decide), (fun _ h => absurd h List.not_mem_nil)⟩)⟩)⟩)⟩)⟩)⟩)⟩)⟩) (fun _ h => absurd h List.not_mem_nil) (fun _ h => absurd h List.not_mem_nil)) (by decide +kernel) rfl (cats := [1, 1, 1, 1]) (fun as h r e => ⟨(mm_ga_inv e).1, (mm_gd_inv (mm_ga_inv e).2).1⟩) rfl (by decide)
theorem v_Md_readLimit (l : Launch) {own : String} {i n0 : Nat} (hl : Cond.methodLink own i yX12_readLimit ∈ mm_tbl) (hn : 7 ≤ n0) : mm_cok l own n0 i (0, 3, 0, f_Md_readLimit) := Or.inr (Or.inr ⟨rfl, yX12_readLimit, cX12_readLimit, 8, none, 6, 12, TX12, 27, i_Md_readLimit l, hn, by decide, by decide +kernel, rfl, fun _ _ _ e => (mm_gd_inv (mm_ga_inv e).2).2, hl, q_2017, q_93, q_179, q_2018⟩)
def p_Md_readWhere : mm_P := ([(0, .bipush 73, 2, 73), (2, .iconst 2, 1, 2), (3, .iload_n 1, 1, 0), (4, .iadd, 1, 0), (5, .imul, 1, 0), (6, .istore_n 2, 1, 0), (7, .iconst 0, 1, 0), (8, .istore_n 3, 1, 0), (9, .iconst 1, 1, 1), (10, .istore 4, 2, 0), (12, .iload 4, 2, 0), (14, .ifCond .eq 74, 3, 0), (17, .aload_n 0, 1, 0), (18, .iload_n 1, 1, 0), (19, .iload_n 2, 1, 0), (20, .iload_n 3, 1, 0), (21, .invokevirtual 252, 3, 0), (24, .aload_n 0, 1, 0), (25, .bipush 36, 2, 36), (27, .invokevirtual 184, 3, 0), (30, .ifCond .ne 12, 3, 0), (33, .aload_n 0, 1, 0), (34, .bipush 37, 2, 37), (36, .invokevirtual 184, 3, 0), (39, .ifCond .eq 7, 3, 0), (42, .iconst 1, 1, 1), (43, .goto 4, 3, 0), (46, .iconst 0, 1, 0), (47, .istore 4, 2, 0), (49, .iload_n 3, 1, 0), (50, .aload_n 0, 1, 0), (51, .bipush 37, 2, 37), (53, .invokevirtual 184, 3, 0), (56, .ifCond .eq 7, 3, 0), (59, .iconst 1, 1, 1), (60, .goto 4, 3, 0), (63, .iconst 0, 1, 0), (64, .iadd, 1, 0), (65, .istore_n 3, 1, 0), (66, .aload_n 0, 1, 0), (67, .dup, 1, 0), (68, .getfield 172, 3, 0), (71, .iload 4, 2, 0), (73, .ifCond .eq 7, 3, 0), (76, .iconst 1, 1, 1), (77, .goto 4, 3, 0), (80, .iconst 0, 1, 0), (81, .iadd, 1, 0), (82, .putfield 172, 3, 0), (85, .goto (-73), 3, 0), (88, .return_, 1, 0)], [(172, 12, 7, 0)], [(184, 0, 1, 1, f_Md_isWord), (252, 0, 3, 0, f_Md_readLimit)], [], [], [(0, [0, 1]), (12, [0, 1, 2, 3, 4]), (47, [0, 1, 2, 3])], [], 0)
def f_Md_readWhere : mm_F := fun args h => mm_ga [1, 1] args (mm_gd 12 args h (mm_run p_Md_readWhere (mm_fu + 1) 0 args [] h))
set_option maxRecDepth 100000 in
theorem e_Md_readWhere_0 (f : Nat) (t : Nat) (v1 : Int32) (h : mm_H) : mm_run p_Md_readWhere (f + 1) 0 [.ref t, .int v1] [] h =
  mm_run p_Md_readWhere f 12 [.ref t, .int v1, .int (73 * (2 + v1)), .int 0, .int 1] [] h := rfl
theorem e_Md_readWhere (t : Nat) (v1 : Int32) (h : mm_H) {fs : List Value} (hb : h t = some (.inr (12, fs))) : f_Md_readWhere [.ref t, .int v1] h =
  mm_run p_Md_readWhere mm_fu 12 [.ref t, .int v1, .int (73 * (2 + v1)), .int 0, .int 1] [] h := (mm_ga_is rfl).trans ((mm_gd_is hb).trans (e_Md_readWhere_0 mm_fu t v1 h))
set_option maxRecDepth 100000 in
theorem e_Md_readWhere_12 (f : Nat) (t : Nat) (v1 : Int32) (v2 : Int32) (v3 : Int32) (v4 : Int32) (h : mm_H) : mm_run p_Md_readWhere (f + 1) 12 [.ref t, .int v1, .int v2, .int v3, .int v4] [] h =
  if v4 = 0 then
    some (none, h)
  else
    mm_cv (f_Md_readLimit [.ref t, .int v1, .int v2, .int v3] h) fun h1 =>
    mm_ci (f_Md_isWord [.ref t, .int 36] h1) fun x3 h2 =>
    if x3 = 0 then
      mm_ci (f_Md_isWord [.ref t, .int 37] h2) fun x5 h4 =>
      if x5 = 0 then
        mm_run p_Md_readWhere f 47 [.ref t, .int v1, .int v2, .int v3] [.int 0] h4
      else
        mm_run p_Md_readWhere f 47 [.ref t, .int v1, .int v2, .int v3] [.int 1] h4
    else
      mm_run p_Md_readWhere f 47 [.ref t, .int v1, .int v2, .int v3] [.int 1] h2 := rfl
set_option maxRecDepth 100000 in
theorem e_Md_readWhere_47 (f : Nat) (t : Nat) (v1 : Int32) (v2 : Int32) (v3 : Int32) (s0 : Int32) (h : mm_H) : mm_run p_Md_readWhere (f + 1) 47 [.ref t, .int v1, .int v2, .int v3] [.int s0] h =
  mm_ci (f_Md_isWord [.ref t, .int 37] h) fun x2 h1 =>
  if x2 = 0 then
    (mm_gi 12 7 h1 t).bind fun x3 =>
    if s0 = 0 then
      (mm_pf 12 7 (.int (x3 + 0)) h1 t).bind fun h4 =>
      mm_run p_Md_readWhere f 12 [.ref t, .int v1, .int v2, .int (v3 + 0), .int s0] [] h4
    else
      (mm_pf 12 7 (.int (x3 + 1)) h1 t).bind fun h5 =>
      mm_run p_Md_readWhere f 12 [.ref t, .int v1, .int v2, .int (v3 + 0), .int s0] [] h5
  else
    (mm_gi 12 7 h1 t).bind fun x6 =>
    if s0 = 0 then
      (mm_pf 12 7 (.int (x6 + 0)) h1 t).bind fun h7 =>
      mm_run p_Md_readWhere f 12 [.ref t, .int v1, .int v2, .int (v3 + 1), .int s0] [] h7
    else
      (mm_pf 12 7 (.int (x6 + 1)) h1 t).bind fun h8 =>
      mm_run p_Md_readWhere f 12 [.ref t, .int v1, .int v2, .int (v3 + 1), .int s0] [] h8 := rfl
set_option maxRecDepth 100000 in
theorem i_Md_readWhere (l : Launch) : mm_Imp l yX12_readWhere cX12_readWhere 5 none 7 f_Md_readWhere := mm_imp l (P := p_Md_readWhere) mm_cls_ok mm_sys_ok (by decide) (mm_Pok_of (List.forall_mem_cons.mpr ⟨k_X12_172, (fun _ h => absurd h List.not_mem_nil)⟩) (List.forall_mem_cons.mpr ⟨v_Md_isWord l q_1948 (by decide), (List.forall_mem_cons.mpr ⟨v_Md_readLimit l q_2015 (by decide), (fun _ h => absurd h List.not_mem_nil)⟩)⟩) (fun _ h => absurd h List.not_mem_nil) (fun _ h => absurd h List.not_mem_nil)) (by decide +kernel) rfl (cats := [1, 1]) (fun as h r e => ⟨(mm_ga_inv e).1, (mm_gd_inv (mm_ga_inv e).2).1⟩) rfl (by decide)
theorem v_Md_readWhere (l : Launch) {own : String} {i n0 : Nat} (hl : Cond.methodLink own i yX12_readWhere ∈ mm_tbl) (hn : 8 ≤ n0) : mm_cok l own n0 i (0, 1, 0, f_Md_readWhere) := Or.inr (Or.inr ⟨rfl, yX12_readWhere, cX12_readWhere, 5, none, 7, 12, TX12, 27, i_Md_readWhere l, hn, by decide, by decide +kernel, rfl, fun _ _ _ e => (mm_gd_inv (mm_ga_inv e).2).2, hl, q_2013, q_92, q_179, q_2014⟩)
