def p_St_isHeld : mm_P := ([(0, .iload_n 2, 1, 0), (1, .ifCond .ne 35, 3, 0), (4, .aload_n 0, 1, 0), (5, .iload_n 1, 1, 0), (6, .iconst 0, 1, 0), (7, .invokevirtual 251, 3, 0), (10, .ifCond .eq 26, 3, 0), (13, .aload_n 0, 1, 0), (14, .getfield 21, 3, 0), (17, .aload_n 0, 1, 0), (18, .getfield 12, 3, 0), (21, .iload_n 1, 1, 0), (22, .iconst 0, 1, 0), (23, .invokevirtual 147, 3, 0), (26, .invokevirtual 272, 3, 0), (29, .ifCond .eq 7, 3, 0), (32, .iconst 1, 1, 1), (33, .goto 4, 3, 0), (36, .iconst 0, 1, 0), (37, .ireturn, 1, 0)], [(12, 8, 0, 4), (21, 8, 1, 4)], [(147, 0, 2, 1, f_Rw_valueOf), (251, 0, 2, 1, f_St_isAlone), (272, 0, 1, 1, f_Pt_anyAt)], [], [], [(0, [0, 1, 2])], [], 1)
def f_St_isHeld : mm_F := fun args h => mm_ga [1, 1, 1] args (mm_gd 8 args h (mm_run p_St_isHeld (mm_fu + 1) 0 args [] h))
set_option maxRecDepth 100000 in
theorem e_St_isHeld_0 (f : Nat) (t : Nat) (v1 : Int32) (v2 : Int32) (h : mm_H) : mm_run p_St_isHeld (f + 1) 0 [.ref t, .int v1, .int v2] [] h =
  if v2 = 0 then
    mm_ci (f_St_isAlone [.ref t, .int v1, .int 0] h) fun x2 h1 =>
    if x2 = 0 then
      some (some (.int 0), h1)
    else
      (mm_gr 8 1 h1 t).bind fun r3 =>
      (mm_gr 8 0 h1 t).bind fun r4 =>
      mm_ci (f_Rw_valueOf [.ref r4, .int v1, .int 0] h1) fun x6 h5 =>
      mm_ci (f_Pt_anyAt [.ref r3, .int x6] h5) fun x8 h7 =>
      if x8 = 0 then
        some (some (.int 0), h7)
      else
        some (some (.int 1), h7)
  else
    some (some (.int 0), h) := rfl
theorem e_St_isHeld (t : Nat) (v1 : Int32) (v2 : Int32) (h : mm_H) {fs : List Value} (hb : h t = some (.inr (8, fs))) : f_St_isHeld [.ref t, .int v1, .int v2] h =
  if v2 = 0 then
    mm_ci (f_St_isAlone [.ref t, .int v1, .int 0] h) fun x2 h1 =>
    if x2 = 0 then
      some (some (.int 0), h1)
    else
      (mm_gr 8 1 h1 t).bind fun r3 =>
      (mm_gr 8 0 h1 t).bind fun r4 =>
      mm_ci (f_Rw_valueOf [.ref r4, .int v1, .int 0] h1) fun x6 h5 =>
      mm_ci (f_Pt_anyAt [.ref r3, .int x6] h5) fun x8 h7 =>
      if x8 = 0 then
        some (some (.int 0), h7)
      else
        some (some (.int 1), h7)
  else
    some (some (.int 0), h) := (mm_ga_is rfl).trans ((mm_gd_is hb).trans (e_St_isHeld_0 mm_fu t v1 v2 h))
set_option maxRecDepth 100000 in
theorem i_St_isHeld (l : Launch) : mm_Imp l yX8_isHeld cX8_isHeld 3 (some .boolean) 3 f_St_isHeld := mm_imp l (P := p_St_isHeld) mm_cls_ok mm_sys_ok (by decide) (mm_Pok_of (List.forall_mem_cons.mpr ⟨k_X8_12, (List.forall_mem_cons.mpr ⟨k_X8_21, (fun _ h => absurd h List.not_mem_nil)⟩)⟩) (List.forall_mem_cons.mpr ⟨v_Rw_valueOf l q_907 (by decide), (List.forall_mem_cons.mpr ⟨v_St_isAlone l q_1117 (by decide), (List.forall_mem_cons.mpr ⟨v_Pt_anyAt l q_1151 (by decide), (fun _ h => absurd h List.not_mem_nil)⟩)⟩)⟩) (fun _ h => absurd h List.not_mem_nil) (fun _ h => absurd h List.not_mem_nil)) (by decide +kernel) rfl (cats := [1, 1, 1]) (fun as h r e => ⟨(mm_ga_inv e).1, (mm_gd_inv (mm_ga_inv e).2).1⟩) rfl (by decide)
theorem v_St_isHeld (l : Launch) {own : String} {i n0 : Nat} (hl : Cond.methodLink own i yX8_isHeld ∈ mm_tbl) (hn : 4 ≤ n0) : mm_cok l own n0 i (0, 2, 1, f_St_isHeld) := Or.inr (Or.inr ⟨rfl, yX8_isHeld, cX8_isHeld, 3, (some .boolean), 3, 8, TX8, 9, i_St_isHeld l, hn, by decide, by decide +kernel, rfl, fun _ _ _ e => (mm_gd_inv (mm_ga_inv e).2).2, hl, q_1149, q_38, q_174, q_1150⟩)
def p_St_amend : mm_P := ([(0, .aload_n 0, 1, 0), (1, .getfield 12, 3, 0), (4, .iload_n 1, 1, 0), (5, .invokevirtual 151, 3, 0), (8, .ifCond .eq 19, 3, 0), (11, .iload_n 2, 1, 0), (12, .ifCond .lt 15, 3, 0), (15, .iload_n 2, 1, 0), (16, .iconst 3, 1, 3), (17, .if_icmp .ge 10, 3, 0), (20, .iload_n 3, 1, 0), (21, .invokestatic 263, 3, 0), (24, .ifCond .ne 5, 3, 0), (27, .iconst 0, 1, 0), (28, .ireturn, 1, 0), (29, .aload_n 0, 1, 0), (30, .getfield 12, 3, 0), (33, .iload_n 1, 1, 0), (34, .iload_n 2, 1, 0), (35, .invokevirtual 147, 3, 0), (38, .istore 4, 2, 0), (40, .iload 4, 2, 0), (42, .iload_n 3, 1, 0), (43, .if_icmp .eq 23, 3, 0), (46, .aload_n 0, 1, 0), (47, .iload_n 2, 1, 0), (48, .iload_n 3, 1, 0), (49, .invokevirtual 235, 3, 0), (52, .ifCond .ne 12, 3, 0), (55, .aload_n 0, 1, 0), (56, .iload_n 1, 1, 0), (57, .iload_n 2, 1, 0), (58, .invokevirtual 266, 3, 0), (61, .ifCond .eq 5, 3, 0), (64, .iconst 0, 1, 0), (65, .ireturn, 1, 0), (66, .aload_n 0, 1, 0), (67, .iload_n 1, 1, 0), (68, .aload_n 0, 1, 0), (69, .getfield 49, 3, 0), (72, .getfield 120, 3, 0), (75, .aload_n 0, 1, 0), (76, .iload_n 1, 1, 0), (77, .invokevirtual 124, 3, 0), (80, .aload_n 0, 1, 0), (81, .getfield 38, 3, 0), (84, .invokevirtual 130, 3, 0), (87, .aload_n 0, 1, 0), (88, .getfield 12, 3, 0), (91, .iload_n 1, 1, 0), (92, .iload_n 2, 1, 0), (93, .iload_n 3, 1, 0), (94, .invokevirtual 269, 3, 0), (97, .aload_n 0, 1, 0), (98, .iload_n 1, 1, 0), (99, .aload_n 0, 1, 0), (100, .getfield 49, 3, 0), (103, .getfield 120, 3, 0), (106, .aload_n 0, 1, 0), (107, .iload_n 1, 1, 0), (108, .invokevirtual 124, 3, 0), (111, .aload_n 0, 1, 0), (112, .getfield 42, 3, 0), (115, .invokevirtual 130, 3, 0), (118, .aload_n 0, 1, 0), (119, .invokevirtual 242, 3, 0), (122, .ifCond .ne 16, 3, 0), (125, .aload_n 0, 1, 0), (126, .getfield 12, 3, 0), (129, .iload_n 1, 1, 0), (130, .iload_n 2, 1, 0), (131, .iload 4, 2, 0), (133, .invokevirtual 269, 3, 0), (136, .iconst 0, 1, 0), (137, .ireturn, 1, 0), (138, .aload_n 0, 1, 0), (139, .iload_n 1, 1, 0), (140, .invokevirtual 248, 3, 0), (143, .iconst 1, 1, 1), (144, .ireturn, 1, 0)], [(12, 8, 0, 4), (38, 8, 4, 4), (42, 8, 5, 4), (49, 8, 6, 2), (120, 4, 7, 4)], [(124, 0, 2, 1, f_Wh_holds), (130, 0, 3, 0, f_St_entriesOf), (147, 0, 2, 1, f_Rw_valueOf), (151, 0, 1, 1, f_Rw_isVisible), (235, 0, 2, 1, f_St_onceClashes), (242, 0, 0, 1, f_St_fitAside), (248, 0, 1, 0, f_St_moveEntries), (263, 1, 1, 1, f_Ls_isValue), (266, 0, 2, 1, f_St_isHeld), (269, 0, 3, 0, f_Rw_setValue)], [], [], [(0, [0, 1, 2, 3]), (66, [0, 1, 2, 3, 4])], [], 1)
def f_St_amend : mm_F := fun args h => mm_ga [1, 1, 1, 1] args (mm_gd 8 args h (mm_run p_St_amend (mm_fu + 1) 0 args [] h))
set_option maxRecDepth 100000 in
theorem e_St_amend_0 (f : Nat) (t : Nat) (v1 : Int32) (v2 : Int32) (v3 : Int32) (h : mm_H) : mm_run p_St_amend (f + 1) 0 [.ref t, .int v1, .int v2, .int v3] [] h =
  (mm_gr 8 0 h t).bind fun r1 =>
  mm_ci (f_Rw_isVisible [.ref r1, .int v1] h) fun x3 h2 =>
  if x3 = 0 then
    some (some (.int 0), h2)
  else
    if v2 < 0 then
      some (some (.int 0), h2)
    else
      if v2 < 3 then
        mm_ci (f_Ls_isValue [.int v3] h2) fun x5 h4 =>
        if x5 = 0 then
          some (some (.int 0), h4)
        else
          (mm_gr 8 0 h4 t).bind fun r6 =>
          mm_ci (f_Rw_valueOf [.ref r6, .int v1, .int v2] h4) fun x8 h7 =>
          if x8 = v3 then
            mm_run p_St_amend f 66 [.ref t, .int v1, .int v2, .int v3, .int x8] [] h7
          else
            mm_ci (f_St_onceClashes [.ref t, .int v2, .int v3] h7) fun x10 h9 =>
            if x10 = 0 then
              mm_ci (f_St_isHeld [.ref t, .int v1, .int v2] h9) fun x12 h11 =>
              if x12 = 0 then
                mm_run p_St_amend f 66 [.ref t, .int v1, .int v2, .int v3, .int x8] [] h11
              else
                some (some (.int 0), h11)
            else
              some (some (.int 0), h9)
      else
        some (some (.int 0), h2) := rfl
theorem e_St_amend (t : Nat) (v1 : Int32) (v2 : Int32) (v3 : Int32) (h : mm_H) {fs : List Value} (hb : h t = some (.inr (8, fs))) : f_St_amend [.ref t, .int v1, .int v2, .int v3] h =
  (mm_gr 8 0 h t).bind fun r1 =>
  mm_ci (f_Rw_isVisible [.ref r1, .int v1] h) fun x3 h2 =>
  if x3 = 0 then
    some (some (.int 0), h2)
  else
    if v2 < 0 then
      some (some (.int 0), h2)
    else
      if v2 < 3 then
        mm_ci (f_Ls_isValue [.int v3] h2) fun x5 h4 =>
        if x5 = 0 then
          some (some (.int 0), h4)
        else
          (mm_gr 8 0 h4 t).bind fun r6 =>
          mm_ci (f_Rw_valueOf [.ref r6, .int v1, .int v2] h4) fun x8 h7 =>
          if x8 = v3 then
            mm_run p_St_amend mm_fu 66 [.ref t, .int v1, .int v2, .int v3, .int x8] [] h7
          else
            mm_ci (f_St_onceClashes [.ref t, .int v2, .int v3] h7) fun x10 h9 =>
            if x10 = 0 then
              mm_ci (f_St_isHeld [.ref t, .int v1, .int v2] h9) fun x12 h11 =>
              if x12 = 0 then
                mm_run p_St_amend mm_fu 66 [.ref t, .int v1, .int v2, .int v3, .int x8] [] h11
              else
                some (some (.int 0), h11)
            else
              some (some (.int 0), h9)
      else
        some (some (.int 0), h2) := (mm_ga_is rfl).trans ((mm_gd_is hb).trans (e_St_amend_0 mm_fu t v1 v2 v3 h))
set_option maxRecDepth 100000 in
theorem e_St_amend_66 (f : Nat) (t : Nat) (v1 : Int32) (v2 : Int32) (v3 : Int32) (v4 : Int32) (h : mm_H) : mm_run p_St_amend (f + 1) 66 [.ref t, .int v1, .int v2, .int v3, .int v4] [] h =
  (mm_gr 8 6 h t).bind fun r1 =>
  (mm_gr 4 7 h r1).bind fun r2 =>
  mm_ci (f_Wh_holds [.ref r2, .ref t, .int v1] h) fun x4 h3 =>
  (mm_gr 8 4 h3 t).bind fun r5 =>
  mm_cv (f_St_entriesOf [.ref t, .int v1, .int x4, .ref r5] h3) fun h6 =>
  (mm_gr 8 0 h6 t).bind fun r7 =>
  mm_cv (f_Rw_setValue [.ref r7, .int v1, .int v2, .int v3] h6) fun h8 =>
  (mm_gr 8 6 h8 t).bind fun r9 =>
  (mm_gr 4 7 h8 r9).bind fun r10 =>
  mm_ci (f_Wh_holds [.ref r10, .ref t, .int v1] h8) fun x12 h11 =>
  (mm_gr 8 5 h11 t).bind fun r13 =>
  mm_cv (f_St_entriesOf [.ref t, .int v1, .int x12, .ref r13] h11) fun h14 =>
  mm_ci (f_St_fitAside [.ref t] h14) fun x16 h15 =>
  if x16 = 0 then
    (mm_gr 8 0 h15 t).bind fun r17 =>
    mm_cv (f_Rw_setValue [.ref r17, .int v1, .int v2, .int v4] h15) fun h18 =>
    some (some (.int 0), h18)
  else
    mm_cv (f_St_moveEntries [.ref t, .int v1] h15) fun h19 =>
    some (some (.int 1), h19) := rfl
set_option maxRecDepth 100000 in
theorem i_St_amend (l : Launch) : mm_Imp l yX8_amend cX8_amend 5 (some .boolean) 5 f_St_amend := mm_imp l (P := p_St_amend) mm_cls_ok mm_sys_ok (by decide) (mm_Pok_of (List.forall_mem_cons.mpr ⟨k_X8_12, (List.forall_mem_cons.mpr ⟨k_X8_38, (List.forall_mem_cons.mpr ⟨k_X8_42, (List.forall_mem_cons.mpr ⟨k_X8_49, (List.forall_mem_cons.mpr ⟨k_X8_120, (fun _ h => absurd h List.not_mem_nil)⟩)⟩)⟩)⟩)⟩) (List.forall_mem_cons.mpr ⟨v_Wh_holds l q_879 (by decide), (List.forall_mem_cons.mpr ⟨v_St_entriesOf l q_899 (by decide), (List.forall_mem_cons.mpr ⟨v_Rw_valueOf l q_907 (by decide), (List.forall_mem_cons.mpr ⟨v_Rw_isVisible l q_1109 (by decide), (List.forall_mem_cons.mpr ⟨v_St_onceClashes l q_1046 (by decide), (List.forall_mem_cons.mpr ⟨v_St_fitAside l q_1055 (by decide), (List.forall_mem_cons.mpr ⟨v_St_moveEntries l q_1063 (by decide), (List.forall_mem_cons.mpr ⟨v_Ls_isValue l (Or.inr ⟨"LeafSweep", by simp [mm_nest, yX11_isValue, yX8_amend, RX8, RX11]⟩) (by decide), (List.forall_mem_cons.mpr ⟨v_St_isHeld l q_1147 (by decide), (List.forall_mem_cons.mpr ⟨v_Rw_setValue l q_1152 (by decide), (fun _ h => absurd h List.not_mem_nil)⟩)⟩)⟩)⟩)⟩)⟩)⟩)⟩)⟩)⟩) (fun _ h => absurd h List.not_mem_nil) (fun _ h => absurd h List.not_mem_nil)) (by decide +kernel) rfl (cats := [1, 1, 1, 1]) (fun as h r e => ⟨(mm_ga_inv e).1, (mm_gd_inv (mm_ga_inv e).2).1⟩) rfl (by decide)
theorem v_St_amend (l : Launch) {own : String} {i n0 : Nat} (hl : Cond.methodLink own i yX8_amend ∈ mm_tbl) (hn : 6 ≤ n0) : mm_cok l own n0 i (0, 3, 1, f_St_amend) := Or.inr (Or.inr ⟨rfl, yX8_amend, cX8_amend, 5, (some .boolean), 5, 8, TX8, 9, i_St_amend l, hn, by decide, by decide +kernel, rfl, fun _ _ _ e => (mm_gd_inv (mm_ga_inv e).2).2, hl, q_1143, q_1144, q_174, q_1145⟩)
def p_St_eligible : mm_P := ([(0, .aload_n 0, 1, 0), (1, .getfield 12, 3, 0), (4, .invokevirtual 188, 3, 0), (7, .istore 4, 2, 0), (9, .iload_n 1, 1, 0), (10, .iconst (-1), 1, (-1)), (11, .if_icmp .eq 17, 3, 0), (14, .iload 4, 2, 0), (16, .aload_n 0, 1, 0), (17, .getfield 27, 3, 0), (20, .iload_n 1, 1, 0), (21, .aaload, 1, 0), (22, .invokevirtual 159, 3, 0), (25, .iand, 1, 0), (26, .istore 4, 2, 0), (28, .iconst 0, 1, 0), (29, .istore 5, 2, 0), (31, .iconst 0, 1, 0), (32, .istore 6, 2, 0), (34, .iload 6, 2, 0), (36, .aload_n 0, 1, 0), (37, .getfield 12, 3, 0), (40, .getfield 150, 3, 0), (43, .if_icmp .ge 105, 3, 0), (46, .iload 4, 2, 0), (48, .iload 6, 2, 0), (50, .ishr, 1, 0), (51, .iconst 1, 1, 1), (52, .iand, 1, 0), (53, .ifCond .ne 6, 3, 0), (56, .goto 86, 3, 0), (59, .iload_n 1, 1, 0), (60, .iconst (-1), 1, (-1)), (61, .if_icmp .ne 7, 3, 0), (64, .iload_n 2, 1, 0), (65, .goto 21, 3, 0), (68, .aload_n 0, 1, 0), (69, .getfield 12, 3, 0), (72, .iload 6, 2, 0), (74, .aload_n 0, 1, 0), (75, .getfield 49, 3, 0), (78, .getfield 144, 3, 0), (81, .iload_n 1, 1, 0), (82, .iaload, 1, 0), (83, .invokevirtual 147, 3, 0), (86, .istore 7, 2, 0), (88, .iload_n 1, 1, 0), (89, .iconst (-1), 1, (-1)), (90, .if_icmp .eq 15, 3, 0), (93, .iload 7, 2, 0), (95, .iload_n 2, 1, 0), (96, .if_icmp .lt 13, 3, 0), (99, .iload 7, 2, 0), (101, .iload_n 3, 1, 0), (102, .if_icmp .gt 7, 3, 0), (105, .iconst 1, 1, 1), (106, .goto 4, 3, 0), (109, .iconst 0, 1, 0), (110, .istore 8, 2, 0), (112, .iload 8, 2, 0), (114, .ifCond .eq 28, 3, 0), (117, .aload_n 0, 1, 0), (118, .getfield 49, 3, 0), (121, .getfield 191, 3, 0), (124, .aload_n 0, 1, 0), (125, .iload 6, 2, 0), (127, .invokevirtual 124, 3, 0), (130, .ifCond .eq 12, 3, 0), (133, .iload 5, 2, 0), (135, .iconst 1, 1, 1), (136, .iload 6, 2, 0), (138, .ishl, 1, 0), (139, .ior, 1, 0), (140, .istore 5, 2, 0), (142, .iinc 6 1, 3, 1), (145, .goto (-111), 3, 0), (148, .iload 5, 2, 0), (150, .ireturn, 1, 0)], [(12, 8, 0, 4), (27, 8, 2, 4), (49, 8, 6, 2), (144, 4, 1, 4), (150, 7, 1, 0), (191, 4, 6, 4)], [(124, 0, 2, 1, f_Wh_holds), (147, 0, 2, 1, f_Rw_valueOf), (159, 0, 0, 1, f_Lv_rowBits), (188, 0, 0, 1, f_Rw_visible)], [], [], [(0, [0, 1, 2, 3]), (34, [0, 1, 2, 3, 4, 5, 6]), (86, [0, 1, 2, 3, 4, 5, 6])], [], 2)
def f_St_eligible : mm_F := fun args h => mm_ga [1, 1, 1, 1] args (mm_gd 8 args h (mm_run p_St_eligible (mm_fu + 1) 0 args [] h))
set_option maxRecDepth 100000 in
theorem e_St_eligible_0 (f : Nat) (t : Nat) (v1 : Int32) (v2 : Int32) (v3 : Int32) (h : mm_H) : mm_run p_St_eligible (f + 1) 0 [.ref t, .int v1, .int v2, .int v3] [] h =
  (mm_gr 8 0 h t).bind fun r1 =>
  mm_ci (f_Rw_visible [.ref r1] h) fun x3 h2 =>
  if v1 = (-1) then
    mm_run p_St_eligible f 34 [.ref t, .int v1, .int v2, .int v3, .int x3, .int 0, .int 0] [] h2
  else
    (mm_gr 8 2 h2 t).bind fun r4 =>
    (mm_lr h2 r4 v1).bind fun r5 =>
    mm_ci (f_Lv_rowBits [.ref r5] h2) fun x7 h6 =>
    mm_run p_St_eligible f 34 [.ref t, .int v1, .int v2, .int v3, .int (x3 &&& x7), .int 0, .int 0] [] h6 := rfl
theorem e_St_eligible (t : Nat) (v1 : Int32) (v2 : Int32) (v3 : Int32) (h : mm_H) {fs : List Value} (hb : h t = some (.inr (8, fs))) : f_St_eligible [.ref t, .int v1, .int v2, .int v3] h =
  (mm_gr 8 0 h t).bind fun r1 =>
  mm_ci (f_Rw_visible [.ref r1] h) fun x3 h2 =>
  if v1 = (-1) then
    mm_run p_St_eligible mm_fu 34 [.ref t, .int v1, .int v2, .int v3, .int x3, .int 0, .int 0] [] h2
  else
    (mm_gr 8 2 h2 t).bind fun r4 =>
    (mm_lr h2 r4 v1).bind fun r5 =>
    mm_ci (f_Lv_rowBits [.ref r5] h2) fun x7 h6 =>
    mm_run p_St_eligible mm_fu 34 [.ref t, .int v1, .int v2, .int v3, .int (x3 &&& x7), .int 0, .int 0] [] h6 := (mm_ga_is rfl).trans ((mm_gd_is hb).trans (e_St_eligible_0 mm_fu t v1 v2 v3 h))
set_option maxRecDepth 100000 in
theorem e_St_eligible_34 (f : Nat) (t : Nat) (v1 : Int32) (v2 : Int32) (v3 : Int32) (v4 : Int32) (v5 : Int32) (v6 : Int32) (h : mm_H) : mm_run p_St_eligible (f + 1) 34 [.ref t, .int v1, .int v2, .int v3, .int v4, .int v5, .int v6] [] h =
  (mm_gr 8 0 h t).bind fun r1 =>
  (mm_gi 7 1 h r1).bind fun x2 =>
  if v6 < x2 then
    if ((v4 >>> (v6 &&& 31)) &&& 1) = 0 then
      mm_run p_St_eligible f 34 [.ref t, .int v1, .int v2, .int v3, .int v4, .int v5, .int (v6 + 1)] [] h
    else
      if v1 = (-1) then
        mm_run p_St_eligible f 86 [.ref t, .int v1, .int v2, .int v3, .int v4, .int v5, .int v6] [.int v2] h
      else
        (mm_gr 8 0 h t).bind fun r3 =>
        (mm_gr 8 6 h t).bind fun r4 =>
        (mm_gr 4 1 h r4).bind fun r5 =>
        (mm_li h r5 v1).bind fun x6 =>
        mm_ci (f_Rw_valueOf [.ref r3, .int v6, .int x6] h) fun x8 h7 =>
        mm_run p_St_eligible f 86 [.ref t, .int v1, .int v2, .int v3, .int v4, .int v5, .int v6] [.int x8] h7
  else
    some (some (.int v5), h) := rfl
set_option maxRecDepth 100000 in
theorem e_St_eligible_86 (f : Nat) (t : Nat) (v1 : Int32) (v2 : Int32) (v3 : Int32) (v4 : Int32) (v5 : Int32) (v6 : Int32) (s0 : Int32) (h : mm_H) : mm_run p_St_eligible (f + 1) 86 [.ref t, .int v1, .int v2, .int v3, .int v4, .int v5, .int v6] [.int s0] h =
  if v1 = (-1) then
    (mm_gr 8 6 h t).bind fun r1 =>
    (mm_gr 4 6 h r1).bind fun r2 =>
    mm_ci (f_Wh_holds [.ref r2, .ref t, .int v6] h) fun x4 h3 =>
    if x4 = 0 then
      mm_run p_St_eligible f 34 [.ref t, .int v1, .int v2, .int v3, .int v4, .int v5, .int (v6 + 1)] [] h3
    else
      mm_run p_St_eligible f 34 [.ref t, .int v1, .int v2, .int v3, .int v4, .int (v5 ||| (1 <<< (v6 &&& 31))), .int (v6 + 1)] [] h3
  else
    if s0 < v2 then
      mm_run p_St_eligible f 34 [.ref t, .int v1, .int v2, .int v3, .int v4, .int v5, .int (v6 + 1)] [] h
    else
      if v3 < s0 then
        mm_run p_St_eligible f 34 [.ref t, .int v1, .int v2, .int v3, .int v4, .int v5, .int (v6 + 1)] [] h
      else
        (mm_gr 8 6 h t).bind fun r5 =>
        (mm_gr 4 6 h r5).bind fun r6 =>
        mm_ci (f_Wh_holds [.ref r6, .ref t, .int v6] h) fun x8 h7 =>
        if x8 = 0 then
          mm_run p_St_eligible f 34 [.ref t, .int v1, .int v2, .int v3, .int v4, .int v5, .int (v6 + 1)] [] h7
        else
          mm_run p_St_eligible f 34 [.ref t, .int v1, .int v2, .int v3, .int v4, .int (v5 ||| (1 <<< (v6 &&& 31))), .int (v6 + 1)] [] h7 := rfl
set_option maxRecDepth 100000 in
theorem i_St_eligible (l : Launch) : mm_Imp l yX8_eligible cX8_eligible 9 (some .int) 4 f_St_eligible := mm_imp l (P := p_St_eligible) mm_cls_ok mm_sys_ok (by decide) (mm_Pok_of (List.forall_mem_cons.mpr ⟨k_X8_12, (List.forall_mem_cons.mpr ⟨k_X8_27, (List.forall_mem_cons.mpr ⟨k_X8_49, (List.forall_mem_cons.mpr ⟨k_X8_144, (List.forall_mem_cons.mpr ⟨k_X8_150, (List.forall_mem_cons.mpr ⟨k_X8_191, (fun _ h => absurd h List.not_mem_nil)⟩)⟩)⟩)⟩)⟩)⟩) (List.forall_mem_cons.mpr ⟨v_Wh_holds l q_879 (by decide), (List.forall_mem_cons.mpr ⟨v_Rw_valueOf l q_907 (by decide), (List.forall_mem_cons.mpr ⟨v_Lv_rowBits l q_966 (by decide), (List.forall_mem_cons.mpr ⟨v_Rw_visible l q_1181 (by decide), (fun _ h => absurd h List.not_mem_nil)⟩)⟩)⟩)⟩) (fun _ h => absurd h List.not_mem_nil) (fun _ h => absurd h List.not_mem_nil)) (by decide +kernel) rfl (cats := [1, 1, 1, 1]) (fun as h r e => ⟨(mm_ga_inv e).1, (mm_gd_inv (mm_ga_inv e).2).1⟩) rfl (by decide)
theorem v_St_eligible (l : Launch) {own : String} {i n0 : Nat} (hl : Cond.methodLink own i yX8_eligible ∈ mm_tbl) (hn : 5 ≤ n0) : mm_cok l own n0 i (0, 3, 1, f_St_eligible) := Or.inr (Or.inr ⟨rfl, yX8_eligible, cX8_eligible, 9, (some .int), 4, 8, TX8, 9, i_St_eligible l, hn, by decide, by decide +kernel, rfl, fun _ _ _ e => (mm_gd_inv (mm_ga_inv e).2).2, hl, q_1178, q_1179, q_174, q_1180⟩)
def p_St_hindering : mm_P := ([(0, .iconst 0, 1, 0), (1, .istore_n 2, 1, 0), (2, .iconst 0, 1, 0), (3, .istore_n 3, 1, 0), (4, .iload_n 3, 1, 0), (5, .aload_n 0, 1, 0), (6, .getfield 21, 3, 0), (9, .getfield 83, 3, 0), (12, .if_icmp .ge 61, 3, 0), (15, .aload_n 0, 1, 0), (16, .getfield 21, 3, 0), (19, .iload_n 3, 1, 0), (20, .invokevirtual 215, 3, 0), (23, .ifCond .eq 44, 3, 0), (26, .aload_n 0, 1, 0), (27, .getfield 12, 3, 0), (30, .iconst 0, 1, 0), (31, .aload_n 0, 1, 0), (32, .getfield 21, 3, 0), (35, .getfield 218, 3, 0), (38, .iload_n 3, 1, 0), (39, .iaload, 1, 0), (40, .invokevirtual 219, 3, 0), (43, .istore 4, 2, 0), (45, .iload 4, 2, 0), (47, .iload_n 1, 1, 0), (48, .iand, 1, 0), (49, .ifCond .eq 18, 3, 0), (52, .iload 4, 2, 0), (54, .iload_n 1, 1, 0), (55, .iconst (-1), 1, (-1)), (56, .ixor, 1, 0), (57, .iand, 1, 0), (58, .ifCond .ne 9, 3, 0), (61, .iload_n 2, 1, 0), (62, .iconst 1, 1, 1), (63, .iload_n 3, 1, 0), (64, .ishl, 1, 0), (65, .ior, 1, 0), (66, .istore_n 2, 1, 0), (67, .iinc 3 1, 3, 1), (70, .goto (-66), 3, 0), (73, .iload_n 2, 1, 0), (74, .ireturn, 1, 0)], [(12, 8, 0, 4), (21, 8, 1, 4), (83, 5, 3, 0), (218, 5, 1, 4)], [(215, 0, 1, 1, f_Pt_isFirm), (219, 0, 2, 1, f_Rw_having)], [], [], [(0, [0, 1]), (4, [0, 1, 2, 3])], [], 2)
def f_St_hindering : mm_F := fun args h => mm_ga [1, 1] args (mm_gd 8 args h (mm_run p_St_hindering (mm_fu + 1) 0 args [] h))
set_option maxRecDepth 100000 in
theorem e_St_hindering_0 (f : Nat) (t : Nat) (v1 : Int32) (h : mm_H) : mm_run p_St_hindering (f + 1) 0 [.ref t, .int v1] [] h =
  mm_run p_St_hindering f 4 [.ref t, .int v1, .int 0, .int 0] [] h := rfl
theorem e_St_hindering (t : Nat) (v1 : Int32) (h : mm_H) {fs : List Value} (hb : h t = some (.inr (8, fs))) : f_St_hindering [.ref t, .int v1] h =
  mm_run p_St_hindering mm_fu 4 [.ref t, .int v1, .int 0, .int 0] [] h := (mm_ga_is rfl).trans ((mm_gd_is hb).trans (e_St_hindering_0 mm_fu t v1 h))
set_option maxRecDepth 100000 in
theorem e_St_hindering_4 (f : Nat) (t : Nat) (v1 : Int32) (v2 : Int32) (v3 : Int32) (h : mm_H) : mm_run p_St_hindering (f + 1) 4 [.ref t, .int v1, .int v2, .int v3] [] h =
  (mm_gr 8 1 h t).bind fun r1 =>
  (mm_gi 5 3 h r1).bind fun x2 =>
  if v3 < x2 then
    (mm_gr 8 1 h t).bind fun r3 =>
    mm_ci (f_Pt_isFirm [.ref r3, .int v3] h) fun x5 h4 =>
    if x5 = 0 then
      mm_run p_St_hindering f 4 [.ref t, .int v1, .int v2, .int (v3 + 1)] [] h4
    else
      (mm_gr 8 0 h4 t).bind fun r6 =>
      (mm_gr 8 1 h4 t).bind fun r7 =>
      (mm_gr 5 1 h4 r7).bind fun r8 =>
      (mm_li h4 r8 v3).bind fun x9 =>
      mm_ci (f_Rw_having [.ref r6, .int 0, .int x9] h4) fun x11 h10 =>
      if (x11 &&& v1) = 0 then
        mm_run p_St_hindering f 4 [.ref t, .int v1, .int v2, .int (v3 + 1)] [] h10
      else
        if (x11 &&& (v1 ^^^ (-1))) = 0 then
          mm_run p_St_hindering f 4 [.ref t, .int v1, .int (v2 ||| (1 <<< (v3 &&& 31))), .int (v3 + 1)] [] h10
        else
          mm_run p_St_hindering f 4 [.ref t, .int v1, .int v2, .int (v3 + 1)] [] h10
  else
    some (some (.int v2), h) := rfl
set_option maxRecDepth 100000 in
theorem i_St_hindering (l : Launch) : mm_Imp l yX8_hindering cX8_hindering 5 (some .int) 3 f_St_hindering := mm_imp l (P := p_St_hindering) mm_cls_ok mm_sys_ok (by decide) (mm_Pok_of (List.forall_mem_cons.mpr ⟨k_X8_12, (List.forall_mem_cons.mpr ⟨k_X8_21, (List.forall_mem_cons.mpr ⟨k_X8_83, (List.forall_mem_cons.mpr ⟨k_X8_218, (fun _ h => absurd h List.not_mem_nil)⟩)⟩)⟩)⟩) (List.forall_mem_cons.mpr ⟨v_Pt_isFirm l q_1186 (by decide), (List.forall_mem_cons.mpr ⟨v_Rw_having l q_1054 (by decide), (fun _ h => absurd h List.not_mem_nil)⟩)⟩) (fun _ h => absurd h List.not_mem_nil) (fun _ h => absurd h List.not_mem_nil)) (by decide +kernel) rfl (cats := [1, 1]) (fun as h r e => ⟨(mm_ga_inv e).1, (mm_gd_inv (mm_ga_inv e).2).1⟩) rfl (by decide)
theorem v_St_hindering (l : Launch) {own : String} {i n0 : Nat} (hl : Cond.methodLink own i yX8_hindering ∈ mm_tbl) (hn : 4 ≤ n0) : mm_cok l own n0 i (0, 1, 1, f_St_hindering) := Or.inr (Or.inr ⟨rfl, yX8_hindering, cX8_hindering, 5, (some .int), 3, 8, TX8, 9, i_St_hindering l, hn, by decide, by decide +kernel, rfl, fun _ _ _ e => (mm_gd_inv (mm_ga_inv e).2).2, hl, q_1183, q_1184, q_174, q_1185⟩)
def p_Pt_forgetBefore : mm_P := ([(0, .iconst 0, 1, 0), (1, .istore_n 1, 1, 0), (2, .iload_n 1, 1, 0), (3, .aload_n 0, 1, 0), (4, .getfield 21, 3, 0), (7, .if_icmp .ge 16, 3, 0), (10, .aload_n 0, 1, 0), (11, .getfield 18, 3, 0), (14, .iload_n 1, 1, 0), (15, .iconst (-1), 1, (-1)), (16, .iastore, 1, 0), (17, .iinc 1 1, 3, 1), (20, .goto (-18), 3, 0), (23, .return_, 1, 0)], [(18, 5, 2, 4), (21, 5, 3, 0)], [], [], [], [(0, [0]), (2, [0, 1])], [], 0)
def f_Pt_forgetBefore : mm_F := fun args h => mm_ga [1] args (mm_gd 5 args h (mm_run p_Pt_forgetBefore (mm_fu + 1) 0 args [] h))
set_option maxRecDepth 100000 in
theorem e_Pt_forgetBefore_0 (f : Nat) (t : Nat) (h : mm_H) : mm_run p_Pt_forgetBefore (f + 1) 0 [.ref t] [] h =
  mm_run p_Pt_forgetBefore f 2 [.ref t, .int 0] [] h := rfl
theorem e_Pt_forgetBefore (t : Nat) (h : mm_H) {fs : List Value} (hb : h t = some (.inr (5, fs))) : f_Pt_forgetBefore [.ref t] h =
  mm_run p_Pt_forgetBefore mm_fu 2 [.ref t, .int 0] [] h := (mm_ga_is rfl).trans ((mm_gd_is hb).trans (e_Pt_forgetBefore_0 mm_fu t h))
set_option maxRecDepth 100000 in
theorem e_Pt_forgetBefore_2 (f : Nat) (t : Nat) (v1 : Int32) (h : mm_H) : mm_run p_Pt_forgetBefore (f + 1) 2 [.ref t, .int v1] [] h =
  (mm_gi 5 3 h t).bind fun x1 =>
  if v1 < x1 then
    (mm_gr 5 2 h t).bind fun r2 =>
    (mm_si h r2 v1 (-1)).bind fun h3 =>
    mm_run p_Pt_forgetBefore f 2 [.ref t, .int (v1 + 1)] [] h3
  else
    some (none, h) := rfl
set_option maxRecDepth 100000 in
theorem i_Pt_forgetBefore (l : Launch) : mm_Imp l yX5_forgetBefore cX5_forgetBefore 2 none 1 f_Pt_forgetBefore := mm_imp l (P := p_Pt_forgetBefore) mm_cls_ok mm_sys_ok (by decide) (mm_Pok_of (List.forall_mem_cons.mpr ⟨k_X5_18, (List.forall_mem_cons.mpr ⟨k_X5_21, (fun _ h => absurd h List.not_mem_nil)⟩)⟩) (fun _ h => absurd h List.not_mem_nil) (fun _ h => absurd h List.not_mem_nil) (fun _ h => absurd h List.not_mem_nil)) (by decide +kernel) rfl (cats := [1]) (fun as h r e => ⟨(mm_ga_inv e).1, (mm_gd_inv (mm_ga_inv e).2).1⟩) rfl (by decide)
theorem v_Pt_forgetBefore (l : Launch) {own : String} {i n0 : Nat} (hl : Cond.methodLink own i yX5_forgetBefore ∈ mm_tbl) (hn : 2 ≤ n0) : mm_cok l own n0 i (0, 0, 0, f_Pt_forgetBefore) := Or.inr (Or.inr ⟨rfl, yX5_forgetBefore, cX5_forgetBefore, 2, none, 1, 5, TX5, 4, i_Pt_forgetBefore l, hn, by decide, by decide +kernel, rfl, fun _ _ _ e => (mm_gd_inv (mm_ga_inv e).2).2, hl, q_1195, q_1196, q_176, q_1197⟩)
def p_St_loosenForJob : mm_P := ([(0, .aload_n 0, 1, 0), (1, .getfield 21, 3, 0), (4, .invokevirtual 303, 3, 0), (7, .iconst 0, 1, 0), (8, .istore_n 1, 1, 0), (9, .iload_n 1, 1, 0), (10, .aload_n 0, 1, 0), (11, .getfield 21, 3, 0), (14, .getfield 83, 3, 0), (17, .if_icmp .ge 53, 3, 0), (20, .aload_n 0, 1, 0), (21, .getfield 21, 3, 0), (24, .getfield 218, 3, 0), (27, .iload_n 1, 1, 0), (28, .iaload, 1, 0), (29, .istore_n 2, 1, 0), (30, .iload_n 2, 1, 0), (31, .ifCond .lt 33, 3, 0), (34, .aload_n 0, 1, 0), (35, .getfield 12, 3, 0), (38, .iconst 0, 1, 0), (39, .iload_n 2, 1, 0), (40, .invokevirtual 219, 3, 0), (43, .ifCond .ne 21, 3, 0), (46, .aload_n 0, 1, 0), (47, .getfield 21, 3, 0), (50, .getfield 306, 3, 0), (53, .iload_n 1, 1, 0), (54, .iload_n 2, 1, 0), (55, .iastore, 1, 0), (56, .aload_n 0, 1, 0), (57, .getfield 21, 3, 0), (60, .iload_n 1, 1, 0), (61, .invokevirtual 309, 3, 0), (64, .iinc 1 1, 3, 1), (67, .goto (-58), 3, 0), (70, .return_, 1, 0)], [(12, 8, 0, 4), (21, 8, 1, 4), (83, 5, 3, 0), (218, 5, 1, 4), (306, 5, 2, 4)], [(219, 0, 2, 1, f_Rw_having), (303, 0, 0, 0, f_Pt_forgetBefore), (309, 0, 1, 0, f_Pt_loosen)], [], [], [(0, [0]), (9, [0, 1])], [], 0)
def f_St_loosenForJob : mm_F := fun args h => mm_ga [1] args (mm_gd 8 args h (mm_run p_St_loosenForJob (mm_fu + 1) 0 args [] h))
set_option maxRecDepth 100000 in
theorem e_St_loosenForJob_0 (f : Nat) (t : Nat) (h : mm_H) : mm_run p_St_loosenForJob (f + 1) 0 [.ref t] [] h =
  (mm_gr 8 1 h t).bind fun r1 =>
  mm_cv (f_Pt_forgetBefore [.ref r1] h) fun h2 =>
  mm_run p_St_loosenForJob f 9 [.ref t, .int 0] [] h2 := rfl
theorem e_St_loosenForJob (t : Nat) (h : mm_H) {fs : List Value} (hb : h t = some (.inr (8, fs))) : f_St_loosenForJob [.ref t] h =
  (mm_gr 8 1 h t).bind fun r1 =>
  mm_cv (f_Pt_forgetBefore [.ref r1] h) fun h2 =>
  mm_run p_St_loosenForJob mm_fu 9 [.ref t, .int 0] [] h2 := (mm_ga_is rfl).trans ((mm_gd_is hb).trans (e_St_loosenForJob_0 mm_fu t h))
set_option maxRecDepth 100000 in
theorem e_St_loosenForJob_9 (f : Nat) (t : Nat) (v1 : Int32) (h : mm_H) : mm_run p_St_loosenForJob (f + 1) 9 [.ref t, .int v1] [] h =
  (mm_gr 8 1 h t).bind fun r1 =>
  (mm_gi 5 3 h r1).bind fun x2 =>
  if v1 < x2 then
    (mm_gr 8 1 h t).bind fun r3 =>
    (mm_gr 5 1 h r3).bind fun r4 =>
    (mm_li h r4 v1).bind fun x5 =>
    if x5 < 0 then
      mm_run p_St_loosenForJob f 9 [.ref t, .int (v1 + 1)] [] h
    else
      (mm_gr 8 0 h t).bind fun r6 =>
      mm_ci (f_Rw_having [.ref r6, .int 0, .int x5] h) fun x8 h7 =>
      if x8 = 0 then
        (mm_gr 8 1 h7 t).bind fun r9 =>
        (mm_gr 5 2 h7 r9).bind fun r10 =>
        (mm_si h7 r10 v1 x5).bind fun h11 =>
        (mm_gr 8 1 h11 t).bind fun r12 =>
        mm_cv (f_Pt_loosen [.ref r12, .int v1] h11) fun h13 =>
        mm_run p_St_loosenForJob f 9 [.ref t, .int (v1 + 1)] [] h13
      else
        mm_run p_St_loosenForJob f 9 [.ref t, .int (v1 + 1)] [] h7
  else
    some (none, h) := rfl
set_option maxRecDepth 100000 in
theorem i_St_loosenForJob (l : Launch) : mm_Imp l yX8_loosenForJob cX8_loosenForJob 3 none 3 f_St_loosenForJob := mm_imp l (P := p_St_loosenForJob) mm_cls_ok mm_sys_ok (by decide) (mm_Pok_of (List.forall_mem_cons.mpr ⟨k_X8_12, (List.forall_mem_cons.mpr ⟨k_X8_21, (List.forall_mem_cons.mpr ⟨k_X8_83, (List.forall_mem_cons.mpr ⟨k_X8_218, (List.forall_mem_cons.mpr ⟨k_X8_306, (fun _ h => absurd h List.not_mem_nil)⟩)⟩)⟩)⟩)⟩) (List.forall_mem_cons.mpr ⟨v_Rw_having l q_1054 (by decide), (List.forall_mem_cons.mpr ⟨v_Pt_forgetBefore l q_1194 (by decide), (List.forall_mem_cons.mpr ⟨v_Pt_loosen l q_1198 (by decide), (fun _ h => absurd h List.not_mem_nil)⟩)⟩)⟩) (fun _ h => absurd h List.not_mem_nil) (fun _ h => absurd h List.not_mem_nil)) (by decide +kernel) rfl (cats := [1]) (fun as h r e => ⟨(mm_ga_inv e).1, (mm_gd_inv (mm_ga_inv e).2).1⟩) rfl (by decide)
theorem v_St_loosenForJob (l : Launch) {own : String} {i n0 : Nat} (hl : Cond.methodLink own i yX8_loosenForJob ∈ mm_tbl) (hn : 4 ≤ n0) : mm_cok l own n0 i (0, 0, 0, f_St_loosenForJob) := Or.inr (Or.inr ⟨rfl, yX8_loosenForJob, cX8_loosenForJob, 3, none, 3, 8, TX8, 9, i_St_loosenForJob l, hn, by decide, by decide +kernel, rfl, fun _ _ _ e => (mm_gd_inv (mm_ga_inv e).2).2, hl, q_1192, q_39, q_174, q_1193⟩)
def p_St_comeTo : mm_P := ([(0, .aload_n 0, 1, 0), (1, .getfield 34, 3, 0), (4, .iconst 4, 1, 4), (5, .putfield 207, 3, 0), (8, .aload_n 0, 1, 0), (9, .getfield 34, 3, 0), (12, .iconst (-1), 1, (-1)), (13, .putfield 312, 3, 0), (16, .aload_n 0, 1, 0), (17, .getfield 34, 3, 0), (20, .iconst 0, 1, 0), (21, .putfield 315, 3, 0), (24, .iload_n 1, 1, 0), (25, .istore_n 2, 1, 0), (26, .iload_n 2, 1, 0), (27, .aload_n 0, 1, 0), (28, .getfield 49, 3, 0), (31, .getfield 134, 3, 0), (34, .if_icmp .ge 112, 3, 0), (37, .aload_n 0, 1, 0), (38, .getfield 27, 3, 0), (41, .iload_n 2, 1, 0), (42, .aaload, 1, 0), (43, .astore_n 3, 1, 0), (44, .aload_n 3, 1, 0), (45, .invokevirtual 159, 3, 0), (48, .aload_n 0, 1, 0), (49, .getfield 12, 3, 0), (52, .getfield 198, 3, 0), (55, .iand, 1, 0), (56, .ifCond .eq 84, 3, 0), (59, .aload_n 3, 1, 0), (60, .aload_n 0, 1, 0), (61, .getfield 12, 3, 0), (64, .getfield 198, 3, 0), (67, .invokevirtual 318, 3, 0), (70, .istore 4, 2, 0), (72, .aload_n 3, 1, 0), (73, .aload_n 0, 1, 0), (74, .getfield 12, 3, 0), (77, .getfield 198, 3, 0), (80, .invokevirtual 321, 3, 0), (83, .istore 5, 2, 0), (85, .aload_n 0, 1, 0), (86, .getfield 34, 3, 0), (89, .iload_n 2, 1, 0), (90, .putfield 207, 3, 0), (93, .aload_n 0, 1, 0), (94, .getfield 34, 3, 0), (97, .iload 4, 2, 0), (99, .iload 5, 2, 0), (101, .if_icmp .gt 7, 3, 0), (104, .iconst 0, 1, 0), (105, .goto 4, 3, 0), (108, .iconst 1, 1, 1), (109, .putfield 312, 3, 0), (112, .aload_n 0, 1, 0), (113, .dup, 1, 0), (114, .getfield 45, 3, 0), (117, .iload 4, 2, 0), (119, .iload 5, 2, 0), (121, .invokestatic 324, 3, 0), (124, .iadd, 1, 0), (125, .putfield 45, 3, 0), (128, .aload_n 0, 1, 0), (129, .getfield 34, 3, 0), (132, .getfield 329, 3, 0), (135, .aload_n 3, 1, 0), (136, .invokevirtual 67, 3, 0), (139, .return_, 1, 0), (140, .iinc 2 1, 3, 1), (143, .goto (-117), 3, 0), (146, .return_, 1, 0)], [(12, 8, 0, 4), (27, 8, 2, 4), (34, 8, 3, 4), (45, 8, 8, 0), (49, 8, 6, 2), (134, 4, 10, 0), (198, 7, 3, 0), (207, 1, 5, 0), (312, 1, 6, 0), (315, 1, 8, 0), (329, 1, 2, 4)], [(67, 0, 1, 0, f_Lv_become), (159, 0, 0, 1, f_Lv_rowBits), (318, 0, 1, 1, f_Lv_passCost), (321, 0, 1, 1, f_Lv_probeCost), (324, 4, 2, 1, fun _ _ => none)], [], [], [(0, [0, 1]), (26, [0, 2])], [], 0)
def f_St_comeTo : mm_F := fun args h => mm_ga [1, 1] args (mm_gd 8 args h (mm_run p_St_comeTo (mm_fu + 1) 0 args [] h))
set_option maxRecDepth 100000 in
theorem e_St_comeTo_0 (f : Nat) (t : Nat) (v1 : Int32) (h : mm_H) : mm_run p_St_comeTo (f + 1) 0 [.ref t, .int v1] [] h =
  (mm_gr 8 3 h t).bind fun r1 =>
  (mm_pf 1 5 (.int 4) h r1).bind fun h2 =>
  (mm_gr 8 3 h2 t).bind fun r3 =>
  (mm_pf 1 6 (.int (-1)) h2 r3).bind fun h4 =>
  (mm_gr 8 3 h4 t).bind fun r5 =>
  (mm_pf 1 8 (.int 0) h4 r5).bind fun h6 =>
  mm_run p_St_comeTo f 26 [.ref t, .int v1] [] h6 := rfl
theorem e_St_comeTo (t : Nat) (v1 : Int32) (h : mm_H) {fs : List Value} (hb : h t = some (.inr (8, fs))) : f_St_comeTo [.ref t, .int v1] h =
  (mm_gr 8 3 h t).bind fun r1 =>
  (mm_pf 1 5 (.int 4) h r1).bind fun h2 =>
  (mm_gr 8 3 h2 t).bind fun r3 =>
  (mm_pf 1 6 (.int (-1)) h2 r3).bind fun h4 =>
  (mm_gr 8 3 h4 t).bind fun r5 =>
  (mm_pf 1 8 (.int 0) h4 r5).bind fun h6 =>
  mm_run p_St_comeTo mm_fu 26 [.ref t, .int v1] [] h6 := (mm_ga_is rfl).trans ((mm_gd_is hb).trans (e_St_comeTo_0 mm_fu t v1 h))
set_option maxRecDepth 100000 in
theorem e_St_comeTo_26 (f : Nat) (t : Nat) (v2 : Int32) (h : mm_H) : mm_run p_St_comeTo (f + 1) 26 [.ref t, .int v2] [] h =
  (mm_gr 8 6 h t).bind fun r1 =>
  (mm_gi 4 10 h r1).bind fun x2 =>
  if v2 < x2 then
    (mm_gr 8 2 h t).bind fun r3 =>
    (mm_lr h r3 v2).bind fun r4 =>
    mm_ci (f_Lv_rowBits [.ref r4] h) fun x6 h5 =>
    (mm_gr 8 0 h5 t).bind fun r7 =>
    (mm_gi 7 3 h5 r7).bind fun x8 =>
    if (x6 &&& x8) = 0 then
      mm_run p_St_comeTo f 26 [.ref t, .int (v2 + 1)] [] h5
    else
      (mm_gr 8 0 h5 t).bind fun r9 =>
      (mm_gi 7 3 h5 r9).bind fun x10 =>
      mm_ci (f_Lv_passCost [.ref r4, .int x10] h5) fun x12 h11 =>
      (mm_gr 8 0 h11 t).bind fun r13 =>
      (mm_gi 7 3 h11 r13).bind fun x14 =>
      mm_ci (f_Lv_probeCost [.ref r4, .int x14] h11) fun x16 h15 =>
      (mm_gr 8 3 h15 t).bind fun r17 =>
      (mm_pf 1 5 (.int v2) h15 r17).bind fun h18 =>
      (mm_gr 8 3 h18 t).bind fun r19 =>
      if x16 < x12 then
        (mm_pf 1 6 (.int 1) h18 r19).bind fun h20 =>
        (mm_gi 8 8 h20 t).bind fun x21 =>
        (mm_pf 8 8 (.int (x21 + (mm_min x12 x16))) h20 t).bind fun h22 =>
        (mm_gr 8 3 h22 t).bind fun r23 =>
        (mm_gr 1 2 h22 r23).bind fun r24 =>
        mm_cv (f_Lv_become [.ref r24, .ref r4] h22) fun h25 =>
        some (none, h25)
      else
        (mm_pf 1 6 (.int 0) h18 r19).bind fun h26 =>
        (mm_gi 8 8 h26 t).bind fun x27 =>
        (mm_pf 8 8 (.int (x27 + (mm_min x12 x16))) h26 t).bind fun h28 =>
        (mm_gr 8 3 h28 t).bind fun r29 =>
        (mm_gr 1 2 h28 r29).bind fun r30 =>
        mm_cv (f_Lv_become [.ref r30, .ref r4] h28) fun h31 =>
        some (none, h31)
  else
    some (none, h) := rfl
set_option maxRecDepth 100000 in
theorem i_St_comeTo (l : Launch) : mm_Imp l yX8_comeTo cX8_comeTo 6 none 3 f_St_comeTo := mm_imp l (P := p_St_comeTo) mm_cls_ok mm_sys_ok (by decide) (mm_Pok_of (List.forall_mem_cons.mpr ⟨k_X8_12, (List.forall_mem_cons.mpr ⟨k_X8_27, (List.forall_mem_cons.mpr ⟨k_X8_34, (List.forall_mem_cons.mpr ⟨k_X8_45, (List.forall_mem_cons.mpr ⟨k_X8_49, (List.forall_mem_cons.mpr ⟨k_X8_134, (List.forall_mem_cons.mpr ⟨k_X8_198, (List.forall_mem_cons.mpr ⟨k_X8_207, (List.forall_mem_cons.mpr ⟨k_X8_312, (List.forall_mem_cons.mpr ⟨k_X8_315, (List.forall_mem_cons.mpr ⟨k_X8_329, (fun _ h => absurd h List.not_mem_nil)⟩)⟩)⟩)⟩)⟩)⟩)⟩)⟩)⟩)⟩)⟩) (List.forall_mem_cons.mpr ⟨v_Lv_become l q_1025 (by decide), (List.forall_mem_cons.mpr ⟨v_Lv_rowBits l q_966 (by decide), (List.forall_mem_cons.mpr ⟨v_Lv_passCost l q_1203 (by decide), (List.forall_mem_cons.mpr ⟨v_Lv_probeCost l q_1208 (by decide), (List.forall_mem_cons.mpr ⟨Or.inl ⟨by decide, Or.inr (Or.inl ⟨rfl, q_1219⟩)⟩, (fun _ h => absurd h List.not_mem_nil)⟩)⟩)⟩)⟩)⟩) (fun _ h => absurd h List.not_mem_nil) (fun _ h => absurd h List.not_mem_nil)) (by decide +kernel) rfl (cats := [1, 1]) (fun as h r e => ⟨(mm_ga_inv e).1, (mm_gd_inv (mm_ga_inv e).2).1⟩) rfl (by decide)
theorem v_St_comeTo (l : Launch) {own : String} {i n0 : Nat} (hl : Cond.methodLink own i yX8_comeTo ∈ mm_tbl) (hn : 4 ≤ n0) : mm_cok l own n0 i (0, 1, 0, f_St_comeTo) := Or.inr (Or.inr ⟨rfl, yX8_comeTo, cX8_comeTo, 6, none, 3, 8, TX8, 9, i_St_comeTo l, hn, by decide, by decide +kernel, rfl, fun _ _ _ e => (mm_gd_inv (mm_ga_inv e).2).2, hl, q_1201, q_40, q_174, q_1202⟩)
def p_St_launch : mm_P := ([(0, .aload_n 0, 1, 0), (1, .getfield 34, 3, 0), (4, .getfield 194, 3, 0), (7, .ifCond .eq 5, 3, 0), (10, .iconst 0, 1, 0), (11, .ireturn, 1, 0), (12, .aload_n 0, 1, 0), (13, .iload_n 1, 1, 0), (14, .iload_n 2, 1, 0), (15, .iload_n 3, 1, 0), (16, .invokevirtual 201, 3, 0), (19, .istore 4, 2, 0), (21, .iload 4, 2, 0), (23, .ifCond .eq 12, 3, 0), (26, .aload_n 0, 1, 0), (27, .iload 4, 2, 0), (29, .invokevirtual 294, 3, 0), (32, .ifCond .eq 5, 3, 0), (35, .iconst 0, 1, 0), (36, .ireturn, 1, 0), (37, .aload_n 0, 1, 0), (38, .getfield 34, 3, 0), (41, .invokevirtual 86, 3, 0), (44, .aload_n 0, 1, 0), (45, .getfield 34, 3, 0), (48, .iconst 1, 1, 1), (49, .putfield 194, 3, 0), (52, .aload_n 0, 1, 0), (53, .getfield 12, 3, 0), (56, .iload 4, 2, 0), (58, .putfield 198, 3, 0), (61, .aload_n 0, 1, 0), (62, .invokevirtual 297, 3, 0), (65, .aload_n 0, 1, 0), (66, .iconst 0, 1, 0), (67, .invokevirtual 300, 3, 0), (70, .iconst 1, 1, 1), (71, .ireturn, 1, 0)], [(12, 8, 0, 4), (34, 8, 3, 4), (194, 1, 3, 1), (198, 7, 3, 0)], [(86, 0, 0, 0, f_Jb_clear), (201, 0, 3, 1, f_St_eligible), (294, 0, 1, 1, f_St_hindering), (297, 0, 0, 0, f_St_loosenForJob), (300, 0, 1, 0, f_St_comeTo)], [], [], [(0, [0, 1, 2, 3])], [], 1)
def f_St_launch : mm_F := fun args h => mm_ga [1, 1, 1, 1] args (mm_gd 8 args h (mm_run p_St_launch (mm_fu + 1) 0 args [] h))
set_option maxRecDepth 100000 in
theorem e_St_launch_0 (f : Nat) (t : Nat) (v1 : Int32) (v2 : Int32) (v3 : Int32) (h : mm_H) : mm_run p_St_launch (f + 1) 0 [.ref t, .int v1, .int v2, .int v3] [] h =
  (mm_gr 8 3 h t).bind fun r1 =>
  (mm_gi 1 3 h r1).bind fun x2 =>
  if x2 = 0 then
    mm_ci (f_St_eligible [.ref t, .int v1, .int v2, .int v3] h) fun x4 h3 =>
    if x4 = 0 then
      some (some (.int 0), h3)
    else
      mm_ci (f_St_hindering [.ref t, .int x4] h3) fun x6 h5 =>
      if x6 = 0 then
        (mm_gr 8 3 h5 t).bind fun r7 =>
        mm_cv (f_Jb_clear [.ref r7] h5) fun h8 =>
        (mm_gr 8 3 h8 t).bind fun r9 =>
        (mm_pf 1 3 (.int 1) h8 r9).bind fun h10 =>
        (mm_gr 8 0 h10 t).bind fun r11 =>
        (mm_pf 7 3 (.int x4) h10 r11).bind fun h12 =>
        mm_cv (f_St_loosenForJob [.ref t] h12) fun h13 =>
        mm_cv (f_St_comeTo [.ref t, .int 0] h13) fun h14 =>
        some (some (.int 1), h14)
      else
        some (some (.int 0), h5)
  else
    some (some (.int 0), h) := rfl
theorem e_St_launch (t : Nat) (v1 : Int32) (v2 : Int32) (v3 : Int32) (h : mm_H) {fs : List Value} (hb : h t = some (.inr (8, fs))) : f_St_launch [.ref t, .int v1, .int v2, .int v3] h =
  (mm_gr 8 3 h t).bind fun r1 =>
  (mm_gi 1 3 h r1).bind fun x2 =>
  if x2 = 0 then
    mm_ci (f_St_eligible [.ref t, .int v1, .int v2, .int v3] h) fun x4 h3 =>
    if x4 = 0 then
      some (some (.int 0), h3)
    else
      mm_ci (f_St_hindering [.ref t, .int x4] h3) fun x6 h5 =>
      if x6 = 0 then
        (mm_gr 8 3 h5 t).bind fun r7 =>
        mm_cv (f_Jb_clear [.ref r7] h5) fun h8 =>
        (mm_gr 8 3 h8 t).bind fun r9 =>
        (mm_pf 1 3 (.int 1) h8 r9).bind fun h10 =>
        (mm_gr 8 0 h10 t).bind fun r11 =>
        (mm_pf 7 3 (.int x4) h10 r11).bind fun h12 =>
        mm_cv (f_St_loosenForJob [.ref t] h12) fun h13 =>
        mm_cv (f_St_comeTo [.ref t, .int 0] h13) fun h14 =>
        some (some (.int 1), h14)
      else
        some (some (.int 0), h5)
  else
    some (some (.int 0), h) := (mm_ga_is rfl).trans ((mm_gd_is hb).trans (e_St_launch_0 mm_fu t v1 v2 v3 h))
set_option maxRecDepth 100000 in
theorem i_St_launch (l : Launch) : mm_Imp l yX8_launch cX8_launch 5 (some .boolean) 5 f_St_launch := mm_imp l (P := p_St_launch) mm_cls_ok mm_sys_ok (by decide) (mm_Pok_of (List.forall_mem_cons.mpr ⟨k_X8_12, (List.forall_mem_cons.mpr ⟨k_X8_34, (List.forall_mem_cons.mpr ⟨k_X8_194, (List.forall_mem_cons.mpr ⟨k_X8_198, (fun _ h => absurd h List.not_mem_nil)⟩)⟩)⟩)⟩) (List.forall_mem_cons.mpr ⟨v_Jb_clear l q_855 (by decide), (List.forall_mem_cons.mpr ⟨v_St_eligible l q_1177 (by decide), (List.forall_mem_cons.mpr ⟨v_St_hindering l q_1182 (by decide), (List.forall_mem_cons.mpr ⟨v_St_loosenForJob l q_1190 (by decide), (List.forall_mem_cons.mpr ⟨v_St_comeTo l q_1199 (by decide), (fun _ h => absurd h List.not_mem_nil)⟩)⟩)⟩)⟩)⟩) (fun _ h => absurd h List.not_mem_nil) (fun _ h => absurd h List.not_mem_nil)) (by decide +kernel) rfl (cats := [1, 1, 1, 1]) (fun as h r e => ⟨(mm_ga_inv e).1, (mm_gd_inv (mm_ga_inv e).2).1⟩) rfl (by decide)
theorem v_St_launch (l : Launch) {own : String} {i n0 : Nat} (hl : Cond.methodLink own i yX8_launch ∈ mm_tbl) (hn : 6 ≤ n0) : mm_cok l own n0 i (0, 3, 1, f_St_launch) := Or.inr (Or.inr ⟨rfl, yX8_launch, cX8_launch, 5, (some .boolean), 5, 8, TX8, 9, i_St_launch l, hn, by decide, by decide +kernel, rfl, fun _ _ _ e => (mm_gd_inv (mm_ga_inv e).2).2, hl, q_1174, q_1175, q_174, q_1176⟩)
def p_St_endJob : mm_P := ([(0, .aload_n 0, 1, 0), (1, .getfield 12, 3, 0), (4, .iconst 0, 1, 0), (5, .putfield 198, 3, 0), (8, .aload_n 0, 1, 0), (9, .getfield 34, 3, 0), (12, .invokevirtual 86, 3, 0), (15, .aload_n 0, 1, 0), (16, .getfield 21, 3, 0), (19, .invokevirtual 303, 3, 0), (22, .return_, 1, 0)], [(12, 8, 0, 4), (21, 8, 1, 4), (34, 8, 3, 4), (198, 7, 3, 0)], [(86, 0, 0, 0, f_Jb_clear), (303, 0, 0, 0, f_Pt_forgetBefore)], [], [], [(0, [0])], [], 0)
def f_St_endJob : mm_F := fun args h => mm_ga [1] args (mm_gd 8 args h (mm_run p_St_endJob (mm_fu + 1) 0 args [] h))
set_option maxRecDepth 100000 in
theorem e_St_endJob_0 (f : Nat) (t : Nat) (h : mm_H) : mm_run p_St_endJob (f + 1) 0 [.ref t] [] h =
  (mm_gr 8 0 h t).bind fun r1 =>
  (mm_pf 7 3 (.int 0) h r1).bind fun h2 =>
  (mm_gr 8 3 h2 t).bind fun r3 =>
  mm_cv (f_Jb_clear [.ref r3] h2) fun h4 =>
  (mm_gr 8 1 h4 t).bind fun r5 =>
  mm_cv (f_Pt_forgetBefore [.ref r5] h4) fun h6 =>
  some (none, h6) := rfl
theorem e_St_endJob (t : Nat) (h : mm_H) {fs : List Value} (hb : h t = some (.inr (8, fs))) : f_St_endJob [.ref t] h =
  (mm_gr 8 0 h t).bind fun r1 =>
  (mm_pf 7 3 (.int 0) h r1).bind fun h2 =>
  (mm_gr 8 3 h2 t).bind fun r3 =>
  mm_cv (f_Jb_clear [.ref r3] h2) fun h4 =>
  (mm_gr 8 1 h4 t).bind fun r5 =>
  mm_cv (f_Pt_forgetBefore [.ref r5] h4) fun h6 =>
  some (none, h6) := (mm_ga_is rfl).trans ((mm_gd_is hb).trans (e_St_endJob_0 mm_fu t h))
set_option maxRecDepth 100000 in
theorem i_St_endJob (l : Launch) : mm_Imp l yX8_endJob cX8_endJob 1 none 2 f_St_endJob := mm_imp l (P := p_St_endJob) mm_cls_ok mm_sys_ok (by decide) (mm_Pok_of (List.forall_mem_cons.mpr ⟨k_X8_12, (List.forall_mem_cons.mpr ⟨k_X8_21, (List.forall_mem_cons.mpr ⟨k_X8_34, (List.forall_mem_cons.mpr ⟨k_X8_198, (fun _ h => absurd h List.not_mem_nil)⟩)⟩)⟩)⟩) (List.forall_mem_cons.mpr ⟨v_Jb_clear l q_855 (by decide), (List.forall_mem_cons.mpr ⟨v_Pt_forgetBefore l q_1194 (by decide), (fun _ h => absurd h List.not_mem_nil)⟩)⟩) (fun _ h => absurd h List.not_mem_nil) (fun _ h => absurd h List.not_mem_nil)) (by decide +kernel) rfl (cats := [1]) (fun as h r e => ⟨(mm_ga_inv e).1, (mm_gd_inv (mm_ga_inv e).2).1⟩) rfl (by decide)
theorem v_St_endJob (l : Launch) {own : String} {i n0 : Nat} (hl : Cond.methodLink own i yX8_endJob ∈ mm_tbl) (hn : 3 ≤ n0) : mm_cok l own n0 i (0, 0, 0, f_St_endJob) := Or.inr (Or.inr ⟨rfl, yX8_endJob, cX8_endJob, 1, none, 2, 8, TX8, 9, i_St_endJob l, hn, by decide, by decide +kernel, rfl, fun _ _ _ e => (mm_gd_inv (mm_ga_inv e).2).2, hl, q_1237, q_41, q_174, q_1238⟩)
def p_St_carryOut : mm_P := ([(0, .aload_n 0, 1, 0), (1, .getfield 34, 3, 0), (4, .getfield 207, 3, 0), (7, .aload_n 0, 1, 0), (8, .getfield 49, 3, 0), (11, .getfield 134, 3, 0), (14, .if_icmp .ge 125, 3, 0), (17, .aload_n 0, 1, 0), (18, .getfield 27, 3, 0), (21, .aload_n 0, 1, 0), (22, .getfield 34, 3, 0), (25, .getfield 207, 3, 0), (28, .aaload, 1, 0), (29, .astore_n 1, 1, 0), (30, .iconst 0, 1, 0), (31, .istore_n 2, 1, 0), (32, .iload_n 2, 1, 0), (33, .aload_n 0, 1, 0), (34, .getfield 34, 3, 0), (37, .getfield 275, 3, 0), (40, .if_icmp .ge 99, 3, 0), (43, .aload_n 0, 1, 0), (44, .getfield 34, 3, 0), (47, .getfield 357, 3, 0), (50, .iload_n 2, 1, 0), (51, .iaload, 1, 0), (52, .istore_n 3, 1, 0), (53, .iload_n 3, 1, 0), (54, .ifCond .ge 7, 3, 0), (57, .iconst 1, 1, 1), (58, .goto 4, 3, 0), (61, .iconst 0, 1, 0), (62, .istore 4, 2, 0), (64, .iload 4, 2, 0), (66, .ifCond .eq 11, 3, 0), (69, .iload_n 3, 1, 0), (70, .ldc_w 287, 3, 0), (73, .iadd, 1, 0), (74, .goto 4, 3, 0), (77, .iload_n 3, 1, 0), (78, .istore 5, 2, 0), (80, .aload_n 1, 1, 0), (81, .iload 5, 2, 0), (83, .sipush 1000, 3, 1000), (86, .irem, 1, 0), (87, .iload 5, 2, 0), (89, .sipush 1000, 3, 1000), (92, .idiv, 1, 0), (93, .invokevirtual 137, 3, 0), (96, .istore 6, 2, 0), (98, .aload_n 0, 1, 0), (99, .dup, 1, 0), (100, .getfield 45, 3, 0), (103, .aload_n 1, 1, 0), (104, .invokevirtual 225, 3, 0), (107, .iconst 2, 1, 2), (108, .iadd, 1, 0), (109, .iadd, 1, 0), (110, .putfield 45, 3, 0), (113, .iload 4, 2, 0), (115, .ifCond .eq 12, 3, 0), (118, .aload_n 1, 1, 0), (119, .iload 6, 2, 0), (121, .invokevirtual 291, 3, 0), (124, .goto 9, 3, 0), (127, .aload_n 1, 1, 0), (128, .iload 6, 2, 0), (130, .invokevirtual 140, 3, 0), (133, .iinc 2 1, 3, 1), (136, .goto (-104), 3, 0), (139, .aload_n 0, 1, 0), (140, .getfield 34, 3, 0), (143, .iconst 0, 1, 0), (144, .putfield 275, 3, 0), (147, .return_, 1, 0)], [(27, 8, 2, 4), (34, 8, 3, 4), (45, 8, 8, 0), (49, 8, 6, 2), (134, 4, 10, 0), (207, 1, 5, 0), (275, 1, 10, 0), (357, 1, 1, 4)], [(137, 0, 2, 1, f_Lv_code), (140, 0, 1, 0, f_Lv_put), (225, 0, 0, 1, f_Lv_height), (291, 0, 1, 0, f_Lv_take)], [(287, 40000)], [], [(0, [0]), (32, [0, 1, 2]), (62, [0, 1, 2, 3])], [], 0)
def f_St_carryOut : mm_F := fun args h => mm_ga [1] args (mm_gd 8 args h (mm_run p_St_carryOut (mm_fu + 1) 0 args [] h))
set_option maxRecDepth 100000 in
theorem e_St_carryOut_0 (f : Nat) (t : Nat) (h : mm_H) : mm_run p_St_carryOut (f + 1) 0 [.ref t] [] h =
  (mm_gr 8 3 h t).bind fun r1 =>
  (mm_gi 1 5 h r1).bind fun x2 =>
  (mm_gr 8 6 h t).bind fun r3 =>
  (mm_gi 4 10 h r3).bind fun x4 =>
  if x2 < x4 then
    (mm_gr 8 2 h t).bind fun r5 =>
    (mm_gr 8 3 h t).bind fun r6 =>
    (mm_gi 1 5 h r6).bind fun x7 =>
    (mm_lr h r5 x7).bind fun r8 =>
    mm_run p_St_carryOut f 32 [.ref t, .ref r8, .int 0] [] h
  else
    (mm_gr 8 3 h t).bind fun r9 =>
    (mm_pf 1 10 (.int 0) h r9).bind fun h10 =>
    some (none, h10) := rfl
theorem e_St_carryOut (t : Nat) (h : mm_H) {fs : List Value} (hb : h t = some (.inr (8, fs))) : f_St_carryOut [.ref t] h =
  (mm_gr 8 3 h t).bind fun r1 =>
  (mm_gi 1 5 h r1).bind fun x2 =>
  (mm_gr 8 6 h t).bind fun r3 =>
  (mm_gi 4 10 h r3).bind fun x4 =>
  if x2 < x4 then
    (mm_gr 8 2 h t).bind fun r5 =>
    (mm_gr 8 3 h t).bind fun r6 =>
    (mm_gi 1 5 h r6).bind fun x7 =>
    (mm_lr h r5 x7).bind fun r8 =>
    mm_run p_St_carryOut mm_fu 32 [.ref t, .ref r8, .int 0] [] h
  else
    (mm_gr 8 3 h t).bind fun r9 =>
    (mm_pf 1 10 (.int 0) h r9).bind fun h10 =>
    some (none, h10) := (mm_ga_is rfl).trans ((mm_gd_is hb).trans (e_St_carryOut_0 mm_fu t h))
set_option maxRecDepth 100000 in
theorem e_St_carryOut_32 (f : Nat) (t : Nat) (v1 : Nat) (v2 : Int32) (h : mm_H) : mm_run p_St_carryOut (f + 1) 32 [.ref t, .ref v1, .int v2] [] h =
  (mm_gr 8 3 h t).bind fun r1 =>
  (mm_gi 1 10 h r1).bind fun x2 =>
  if v2 < x2 then
    (mm_gr 8 3 h t).bind fun r3 =>
    (mm_gr 1 1 h r3).bind fun r4 =>
    (mm_li h r4 v2).bind fun x5 =>
    if x5 < 0 then
      mm_run p_St_carryOut f 62 [.ref t, .ref v1, .int v2, .int x5] [.int 1] h
    else
      mm_run p_St_carryOut f 62 [.ref t, .ref v1, .int v2, .int x5] [.int 0] h
  else
    (mm_gr 8 3 h t).bind fun r6 =>
    (mm_pf 1 10 (.int 0) h r6).bind fun h7 =>
    some (none, h7) := rfl
set_option maxRecDepth 100000 in
theorem e_St_carryOut_62 (f : Nat) (t : Nat) (v1 : Nat) (v2 : Int32) (v3 : Int32) (s0 : Int32) (h : mm_H) : mm_run p_St_carryOut (f + 1) 62 [.ref t, .ref v1, .int v2, .int v3] [.int s0] h =
  if s0 = 0 then
    mm_ci (f_Lv_code [.ref v1, .int (mm_rem v3 1000), .int (v3 / 1000)] h) fun x2 h1 =>
    (mm_gi 8 8 h1 t).bind fun x3 =>
    mm_ci (f_Lv_height [.ref v1] h1) fun x5 h4 =>
    (mm_pf 8 8 (.int (x3 + (x5 + 2))) h4 t).bind fun h6 =>
    if s0 = 0 then
      mm_cv (f_Lv_put [.ref v1, .int x2] h6) fun h7 =>
      mm_run p_St_carryOut f 32 [.ref t, .ref v1, .int (v2 + 1)] [] h7
    else
      mm_cv (f_Lv_take [.ref v1, .int x2] h6) fun h8 =>
      mm_run p_St_carryOut f 32 [.ref t, .ref v1, .int (v2 + 1)] [] h8
  else
    mm_ci (f_Lv_code [.ref v1, .int (mm_rem (v3 + 40000) 1000), .int ((v3 + 40000) / 1000)] h) fun x10 h9 =>
    (mm_gi 8 8 h9 t).bind fun x11 =>
    mm_ci (f_Lv_height [.ref v1] h9) fun x13 h12 =>
    (mm_pf 8 8 (.int (x11 + (x13 + 2))) h12 t).bind fun h14 =>
    if s0 = 0 then
      mm_cv (f_Lv_put [.ref v1, .int x10] h14) fun h15 =>
      mm_run p_St_carryOut f 32 [.ref t, .ref v1, .int (v2 + 1)] [] h15
    else
      mm_cv (f_Lv_take [.ref v1, .int x10] h14) fun h16 =>
      mm_run p_St_carryOut f 32 [.ref t, .ref v1, .int (v2 + 1)] [] h16 := rfl
set_option maxRecDepth 100000 in
theorem i_St_carryOut (l : Launch) : mm_Imp l yX8_carryOut cX8_carryOut 7 none 3 f_St_carryOut := mm_imp l (P := p_St_carryOut) mm_cls_ok mm_sys_ok (by decide) (mm_Pok_of (List.forall_mem_cons.mpr ⟨k_X8_27, (List.forall_mem_cons.mpr ⟨k_X8_34, (List.forall_mem_cons.mpr ⟨k_X8_45, (List.forall_mem_cons.mpr ⟨k_X8_49, (List.forall_mem_cons.mpr ⟨k_X8_134, (List.forall_mem_cons.mpr ⟨k_X8_207, (List.forall_mem_cons.mpr ⟨k_X8_275, (List.forall_mem_cons.mpr ⟨k_X8_357, (fun _ h => absurd h List.not_mem_nil)⟩)⟩)⟩)⟩)⟩)⟩)⟩)⟩) (List.forall_mem_cons.mpr ⟨v_Lv_code l q_908 (by decide), (List.forall_mem_cons.mpr ⟨v_Lv_put l q_912 (by decide), (List.forall_mem_cons.mpr ⟨v_Lv_height l q_1080 (by decide), (List.forall_mem_cons.mpr ⟨v_Lv_take l q_1081 (by decide), (fun _ h => absurd h List.not_mem_nil)⟩)⟩)⟩)⟩) (List.forall_mem_cons.mpr ⟨q_1075, (fun _ h => absurd h List.not_mem_nil)⟩) (fun _ h => absurd h List.not_mem_nil)) (by decide +kernel) rfl (cats := [1]) (fun as h r e => ⟨(mm_ga_inv e).1, (mm_gd_inv (mm_ga_inv e).2).1⟩) rfl (by decide)
theorem v_St_carryOut (l : Launch) {own : String} {i n0 : Nat} (hl : Cond.methodLink own i yX8_carryOut ∈ mm_tbl) (hn : 4 ≤ n0) : mm_cok l own n0 i (0, 0, 0, f_St_carryOut) := Or.inr (Or.inr ⟨rfl, yX8_carryOut, cX8_carryOut, 7, none, 3, 8, TX8, 9, i_St_carryOut l, hn, by decide, by decide +kernel, rfl, fun _ _ _ e => (mm_gd_inv (mm_ga_inv e).2).2, hl, q_1253, q_42, q_174, q_1254⟩)
def p_St_advance : mm_P := ([(0, .aload_n 0, 1, 0), (1, .getfield 34, 3, 0), (4, .invokevirtual 333, 3, 0), (7, .ifCond .ne 5, 3, 0), (10, .iconst (-1), 1, (-1)), (11, .ireturn, 1, 0), (12, .aload_n 0, 1, 0), (13, .getfield 34, 3, 0), (16, .getfield 207, 3, 0), (19, .aload_n 0, 1, 0), (20, .getfield 49, 3, 0), (23, .getfield 134, 3, 0), (26, .if_icmp .lt 31, 3, 0), (29, .aload_n 0, 1, 0), (30, .getfield 12, 3, 0), (33, .dup, 1, 0), (34, .getfield 173, 3, 0), (37, .aload_n 0, 1, 0), (38, .getfield 12, 3, 0), (41, .getfield 198, 3, 0), (44, .iconst (-1), 1, (-1)), (45, .ixor, 1, 0), (46, .iand, 1, 0), (47, .putfield 173, 3, 0), (50, .aload_n 0, 1, 0), (51, .invokevirtual 336, 3, 0), (54, .bipush (-2), 2, (-2)), (56, .ireturn, 1, 0), (57, .aload_n 0, 1, 0), (58, .getfield 27, 3, 0), (61, .aload_n 0, 1, 0), (62, .getfield 34, 3, 0), (65, .getfield 207, 3, 0), (68, .aaload, 1, 0), (69, .astore_n 1, 1, 0), (70, .aload_n 1, 1, 0), (71, .iconst 0, 1, 0), (72, .aload_n 0, 1, 0), (73, .getfield 12, 3, 0), (76, .getfield 198, 3, 0), (79, .aload_n 0, 1, 0), (80, .getfield 34, 3, 0), (83, .getfield 312, 3, 0), (86, .invokevirtual 339, 3, 0), (89, .istore_n 2, 1, 0), (90, .aload_n 1, 1, 0), (91, .aload_n 1, 1, 0), (92, .iload_n 2, 1, 0), (93, .invokevirtual 342, 3, 0), (96, .invokevirtual 291, 3, 0), (99, .aload_n 0, 1, 0), (100, .getfield 34, 3, 0), (103, .dup, 1, 0), (104, .getfield 345, 3, 0), (107, .iconst 1, 1, 1), (108, .iadd, 1, 0), (109, .putfield 345, 3, 0), (112, .aload_n 0, 1, 0), (113, .getfield 34, 3, 0), (116, .dup, 1, 0), (117, .getfield 315, 3, 0), (120, .iconst 1, 1, 1), (121, .iadd, 1, 0), (122, .putfield 315, 3, 0), (125, .aload_n 1, 1, 0), (126, .invokevirtual 159, 3, 0), (129, .aload_n 0, 1, 0), (130, .getfield 12, 3, 0), (133, .getfield 198, 3, 0), (136, .iand, 1, 0), (137, .ifCond .ne 7, 3, 0), (140, .iconst 1, 1, 1), (141, .goto 4, 3, 0), (144, .iconst 0, 1, 0), (145, .istore_n 3, 1, 0), (146, .iload_n 3, 1, 0), (147, .ifCond .ne 17, 3, 0), (150, .aload_n 0, 1, 0), (151, .getfield 34, 3, 0), (154, .getfield 345, 3, 0), (157, .aload_n 0, 1, 0), (158, .getfield 58, 3, 0), (161, .if_icmp .lt 43, 3, 0), (164, .aload_n 0, 1, 0), (165, .dup, 1, 0), (166, .getfield 45, 3, 0), (169, .iconst 1, 1, 1), (170, .iadd, 1, 0), (171, .putfield 45, 3, 0), (174, .aload_n 0, 1, 0), (175, .getfield 34, 3, 0), (178, .iconst 0, 1, 0), (179, .putfield 345, 3, 0), (182, .aload_n 0, 1, 0), (183, .getfield 34, 3, 0), (186, .aload_n 0, 1, 0), (187, .getfield 45, 3, 0), (190, .invokevirtual 348, 3, 0), (193, .aload_n 0, 1, 0), (194, .getfield 34, 3, 0), (197, .getfield 329, 3, 0), (200, .aload_n 1, 1, 0), (201, .invokevirtual 67, 3, 0), (204, .iload_n 3, 1, 0), (205, .ifCond .eq 20, 3, 0), (208, .aload_n 0, 1, 0), (209, .invokevirtual 351, 3, 0), (212, .aload_n 0, 1, 0), (213, .aload_n 0, 1, 0), (214, .getfield 34, 3, 0), (217, .getfield 207, 3, 0), (220, .iconst 1, 1, 1), (221, .iadd, 1, 0), (222, .invokevirtual 300, 3, 0), (225, .iload_n 2, 1, 0), (226, .ireturn, 1, 0)], [(12, 8, 0, 4), (27, 8, 2, 4), (34, 8, 3, 4), (45, 8, 8, 0), (49, 8, 6, 2), (58, 8, 7, 0), (134, 4, 10, 0), (173, 7, 2, 0), (198, 7, 3, 0), (207, 1, 5, 0), (312, 1, 6, 0), (315, 1, 8, 0), (329, 1, 2, 4), (345, 1, 7, 0)], [(67, 0, 1, 0, f_Lv_become), (159, 0, 0, 1, f_Lv_rowBits), (291, 0, 1, 0, f_Lv_take), (300, 0, 1, 0, f_St_comeTo), (333, 0, 0, 1, f_Jb_isRunning), (336, 0, 0, 0, f_St_endJob), (339, 0, 3, 1, f_Lv_leftAt), (342, 0, 1, 1, f_Lv_codeWith), (348, 0, 1, 0, f_Jb_writeRecord), (351, 0, 0, 0, f_St_carryOut)], [], [], [(0, [0]), (164, [0, 1, 2, 3])], [], 2)
def f_St_advance : mm_F := fun args h => mm_ga [1] args (mm_gd 8 args h (mm_run p_St_advance (mm_fu + 1) 0 args [] h))
set_option maxRecDepth 100000 in
theorem e_St_advance_0 (f : Nat) (t : Nat) (h : mm_H) : mm_run p_St_advance (f + 1) 0 [.ref t] [] h =
  (mm_gr 8 3 h t).bind fun r1 =>
  mm_ci (f_Jb_isRunning [.ref r1] h) fun x3 h2 =>
  if x3 = 0 then
    some (some (.int (-1)), h2)
  else
    (mm_gr 8 3 h2 t).bind fun r4 =>
    (mm_gi 1 5 h2 r4).bind fun x5 =>
    (mm_gr 8 6 h2 t).bind fun r6 =>
    (mm_gi 4 10 h2 r6).bind fun x7 =>
    if x5 < x7 then
      (mm_gr 8 2 h2 t).bind fun r8 =>
      (mm_gr 8 3 h2 t).bind fun r9 =>
      (mm_gi 1 5 h2 r9).bind fun x10 =>
      (mm_lr h2 r8 x10).bind fun r11 =>
      (mm_gr 8 0 h2 t).bind fun r12 =>
      (mm_gi 7 3 h2 r12).bind fun x13 =>
      (mm_gr 8 3 h2 t).bind fun r14 =>
      (mm_gi 1 6 h2 r14).bind fun x15 =>
      mm_ci (f_Lv_leftAt [.ref r11, .int 0, .int x13, .int x15] h2) fun x17 h16 =>
      mm_ci (f_Lv_codeWith [.ref r11, .int x17] h16) fun x19 h18 =>
      mm_cv (f_Lv_take [.ref r11, .int x19] h18) fun h20 =>
      (mm_gr 8 3 h20 t).bind fun r21 =>
      (mm_gi 1 7 h20 r21).bind fun x22 =>
      (mm_pf 1 7 (.int (x22 + 1)) h20 r21).bind fun h23 =>
      (mm_gr 8 3 h23 t).bind fun r24 =>
      (mm_gi 1 8 h23 r24).bind fun x25 =>
      (mm_pf 1 8 (.int (x25 + 1)) h23 r24).bind fun h26 =>
      mm_ci (f_Lv_rowBits [.ref r11] h26) fun x28 h27 =>
      (mm_gr 8 0 h27 t).bind fun r29 =>
      (mm_gi 7 3 h27 r29).bind fun x30 =>
      if (x28 &&& x30) = 0 then
        mm_run p_St_advance f 164 [.ref t, .ref r11, .int x17, .int 1] [] h27
      else
        (mm_gr 8 3 h27 t).bind fun r31 =>
        (mm_gi 1 7 h27 r31).bind fun x32 =>
        (mm_gi 8 7 h27 t).bind fun x33 =>
        if x32 < x33 then
          some (some (.int x17), h27)
        else
          mm_run p_St_advance f 164 [.ref t, .ref r11, .int x17, .int 0] [] h27
    else
      (mm_gr 8 0 h2 t).bind fun r34 =>
      (mm_gi 7 2 h2 r34).bind fun x35 =>
      (mm_gr 8 0 h2 t).bind fun r36 =>
      (mm_gi 7 3 h2 r36).bind fun x37 =>
      (mm_pf 7 2 (.int (x35 &&& (x37 ^^^ (-1)))) h2 r34).bind fun h38 =>
      mm_cv (f_St_endJob [.ref t] h38) fun h39 =>
      some (some (.int (-2)), h39) := rfl
theorem e_St_advance (t : Nat) (h : mm_H) {fs : List Value} (hb : h t = some (.inr (8, fs))) : f_St_advance [.ref t] h =
  (mm_gr 8 3 h t).bind fun r1 =>
  mm_ci (f_Jb_isRunning [.ref r1] h) fun x3 h2 =>
  if x3 = 0 then
    some (some (.int (-1)), h2)
  else
    (mm_gr 8 3 h2 t).bind fun r4 =>
    (mm_gi 1 5 h2 r4).bind fun x5 =>
    (mm_gr 8 6 h2 t).bind fun r6 =>
    (mm_gi 4 10 h2 r6).bind fun x7 =>
    if x5 < x7 then
      (mm_gr 8 2 h2 t).bind fun r8 =>
      (mm_gr 8 3 h2 t).bind fun r9 =>
      (mm_gi 1 5 h2 r9).bind fun x10 =>
      (mm_lr h2 r8 x10).bind fun r11 =>
      (mm_gr 8 0 h2 t).bind fun r12 =>
      (mm_gi 7 3 h2 r12).bind fun x13 =>
      (mm_gr 8 3 h2 t).bind fun r14 =>
      (mm_gi 1 6 h2 r14).bind fun x15 =>
      mm_ci (f_Lv_leftAt [.ref r11, .int 0, .int x13, .int x15] h2) fun x17 h16 =>
      mm_ci (f_Lv_codeWith [.ref r11, .int x17] h16) fun x19 h18 =>
      mm_cv (f_Lv_take [.ref r11, .int x19] h18) fun h20 =>
      (mm_gr 8 3 h20 t).bind fun r21 =>
      (mm_gi 1 7 h20 r21).bind fun x22 =>
      (mm_pf 1 7 (.int (x22 + 1)) h20 r21).bind fun h23 =>
      (mm_gr 8 3 h23 t).bind fun r24 =>
      (mm_gi 1 8 h23 r24).bind fun x25 =>
      (mm_pf 1 8 (.int (x25 + 1)) h23 r24).bind fun h26 =>
      mm_ci (f_Lv_rowBits [.ref r11] h26) fun x28 h27 =>
      (mm_gr 8 0 h27 t).bind fun r29 =>
      (mm_gi 7 3 h27 r29).bind fun x30 =>
      if (x28 &&& x30) = 0 then
        mm_run p_St_advance mm_fu 164 [.ref t, .ref r11, .int x17, .int 1] [] h27
      else
        (mm_gr 8 3 h27 t).bind fun r31 =>
        (mm_gi 1 7 h27 r31).bind fun x32 =>
        (mm_gi 8 7 h27 t).bind fun x33 =>
        if x32 < x33 then
          some (some (.int x17), h27)
        else
          mm_run p_St_advance mm_fu 164 [.ref t, .ref r11, .int x17, .int 0] [] h27
    else
      (mm_gr 8 0 h2 t).bind fun r34 =>
      (mm_gi 7 2 h2 r34).bind fun x35 =>
      (mm_gr 8 0 h2 t).bind fun r36 =>
      (mm_gi 7 3 h2 r36).bind fun x37 =>
      (mm_pf 7 2 (.int (x35 &&& (x37 ^^^ (-1)))) h2 r34).bind fun h38 =>
      mm_cv (f_St_endJob [.ref t] h38) fun h39 =>
      some (some (.int (-2)), h39) := (mm_ga_is rfl).trans ((mm_gd_is hb).trans (e_St_advance_0 mm_fu t h))
set_option maxRecDepth 100000 in
theorem e_St_advance_164 (f : Nat) (t : Nat) (v1 : Nat) (v2 : Int32) (v3 : Int32) (h : mm_H) : mm_run p_St_advance (f + 1) 164 [.ref t, .ref v1, .int v2, .int v3] [] h =
  (mm_gi 8 8 h t).bind fun x1 =>
  (mm_pf 8 8 (.int (x1 + 1)) h t).bind fun h2 =>
  (mm_gr 8 3 h2 t).bind fun r3 =>
  (mm_pf 1 7 (.int 0) h2 r3).bind fun h4 =>
  (mm_gr 8 3 h4 t).bind fun r5 =>
  (mm_gi 8 8 h4 t).bind fun x6 =>
  mm_cv (f_Jb_writeRecord [.ref r5, .int x6] h4) fun h7 =>
  (mm_gr 8 3 h7 t).bind fun r8 =>
  (mm_gr 1 2 h7 r8).bind fun r9 =>
  mm_cv (f_Lv_become [.ref r9, .ref v1] h7) fun h10 =>
  if v3 = 0 then
    some (some (.int v2), h10)
  else
    mm_cv (f_St_carryOut [.ref t] h10) fun h11 =>
    (mm_gr 8 3 h11 t).bind fun r12 =>
    (mm_gi 1 5 h11 r12).bind fun x13 =>
    mm_cv (f_St_comeTo [.ref t, .int (x13 + 1)] h11) fun h14 =>
    some (some (.int v2), h14) := rfl
set_option maxRecDepth 100000 in
theorem i_St_advance (l : Launch) : mm_Imp l yX8_advance cX8_advance 4 (some .int) 4 f_St_advance := mm_imp l (P := p_St_advance) mm_cls_ok mm_sys_ok (by decide) (mm_Pok_of (List.forall_mem_cons.mpr ⟨k_X8_12, (List.forall_mem_cons.mpr ⟨k_X8_27, (List.forall_mem_cons.mpr ⟨k_X8_34, (List.forall_mem_cons.mpr ⟨k_X8_45, (List.forall_mem_cons.mpr ⟨k_X8_49, (List.forall_mem_cons.mpr ⟨k_X8_58, (List.forall_mem_cons.mpr ⟨k_X8_134, (List.forall_mem_cons.mpr ⟨k_X8_173, (List.forall_mem_cons.mpr ⟨k_X8_198, (List.forall_mem_cons.mpr ⟨k_X8_207, (List.forall_mem_cons.mpr ⟨k_X8_312, (List.forall_mem_cons.mpr ⟨k_X8_315, (List.forall_mem_cons.mpr ⟨k_X8_329, (List.forall_mem_cons.mpr ⟨k_X8_345, (fun _ h => absurd h List.not_mem_nil)⟩)⟩)⟩)⟩)⟩)⟩)⟩)⟩)⟩)⟩)⟩)⟩)⟩)⟩) (List.forall_mem_cons.mpr ⟨v_Lv_become l q_1025 (by decide), (List.forall_mem_cons.mpr ⟨v_Lv_rowBits l q_966 (by decide), (List.forall_mem_cons.mpr ⟨v_Lv_take l q_1081 (by decide), (List.forall_mem_cons.mpr ⟨v_St_comeTo l q_1199 (by decide), (List.forall_mem_cons.mpr ⟨v_Jb_isRunning l q_1231 (by decide), (List.forall_mem_cons.mpr ⟨v_St_endJob l q_1235 (by decide), (List.forall_mem_cons.mpr ⟨v_Lv_leftAt l q_1239 (by decide), (List.forall_mem_cons.mpr ⟨v_Lv_codeWith l q_1243 (by decide), (List.forall_mem_cons.mpr ⟨v_Jb_writeRecord l q_1247 (by decide), (List.forall_mem_cons.mpr ⟨v_St_carryOut l q_1251 (by decide), (fun _ h => absurd h List.not_mem_nil)⟩)⟩)⟩)⟩)⟩)⟩)⟩)⟩)⟩)⟩) (fun _ h => absurd h List.not_mem_nil) (fun _ h => absurd h List.not_mem_nil)) (by decide +kernel) rfl (cats := [1]) (fun as h r e => ⟨(mm_ga_inv e).1, (mm_gd_inv (mm_ga_inv e).2).1⟩) rfl (by decide)
theorem v_St_advance (l : Launch) {own : String} {i n0 : Nat} (hl : Cond.methodLink own i yX8_advance ∈ mm_tbl) (hn : 5 ≤ n0) : mm_cok l own n0 i (0, 0, 1, f_St_advance) := Or.inr (Or.inr ⟨rfl, yX8_advance, cX8_advance, 4, (some .int), 4, 8, TX8, 9, i_St_advance l, hn, by decide, by decide +kernel, rfl, fun _ _ _ e => (mm_gd_inv (mm_ga_inv e).2).2, hl, q_1228, q_1229, q_174, q_1230⟩)
def p_St_advanceBy : mm_P := ([(0, .iconst 0, 1, 0), (1, .istore_n 2, 1, 0), (2, .iload_n 2, 1, 0), (3, .iload_n 1, 1, 0), (4, .if_icmp .ge 19, 3, 0), (7, .aload_n 0, 1, 0), (8, .invokevirtual 354, 3, 0), (11, .iconst (-1), 1, (-1)), (12, .if_icmp .ne 5, 3, 0), (15, .iload_n 2, 1, 0), (16, .ireturn, 1, 0), (17, .iinc 2 1, 3, 1), (20, .goto (-18), 3, 0), (23, .iload_n 1, 1, 0), (24, .ireturn, 1, 0)], [], [(354, 0, 0, 1, f_St_advance)], [], [], [(0, [0, 1]), (2, [0, 1, 2])], [], 2)
def f_St_advanceBy : mm_F := fun args h => mm_ga [1, 1] args (mm_gd 8 args h (mm_run p_St_advanceBy (mm_fu + 1) 0 args [] h))
set_option maxRecDepth 100000 in
theorem e_St_advanceBy_0 (f : Nat) (t : Nat) (v1 : Int32) (h : mm_H) : mm_run p_St_advanceBy (f + 1) 0 [.ref t, .int v1] [] h =
  mm_run p_St_advanceBy f 2 [.ref t, .int v1, .int 0] [] h := rfl
theorem e_St_advanceBy (t : Nat) (v1 : Int32) (h : mm_H) {fs : List Value} (hb : h t = some (.inr (8, fs))) : f_St_advanceBy [.ref t, .int v1] h =
  mm_run p_St_advanceBy mm_fu 2 [.ref t, .int v1, .int 0] [] h := (mm_ga_is rfl).trans ((mm_gd_is hb).trans (e_St_advanceBy_0 mm_fu t v1 h))
set_option maxRecDepth 100000 in
theorem e_St_advanceBy_2 (f : Nat) (t : Nat) (v1 : Int32) (v2 : Int32) (h : mm_H) : mm_run p_St_advanceBy (f + 1) 2 [.ref t, .int v1, .int v2] [] h =
  if v2 < v1 then
    mm_ci (f_St_advance [.ref t] h) fun x2 h1 =>
    if x2 = (-1) then
      some (some (.int v2), h1)
    else
      mm_run p_St_advanceBy f 2 [.ref t, .int v1, .int (v2 + 1)] [] h1
  else
    some (some (.int v1), h) := rfl
set_option maxRecDepth 100000 in
theorem i_St_advanceBy (l : Launch) : mm_Imp l yX8_advanceBy cX8_advanceBy 3 (some .int) 5 f_St_advanceBy := mm_imp l (P := p_St_advanceBy) mm_cls_ok mm_sys_ok (by decide) (mm_Pok_of (fun _ h => absurd h List.not_mem_nil) (List.forall_mem_cons.mpr ⟨v_St_advance l q_1332 (by decide), (fun _ h => absurd h List.not_mem_nil)⟩) (fun _ h => absurd h List.not_mem_nil) (fun _ h => absurd h List.not_mem_nil)) (by decide +kernel) rfl (cats := [1, 1]) (fun as h r e => ⟨(mm_ga_inv e).1, (mm_gd_inv (mm_ga_inv e).2).1⟩) rfl (by decide)
theorem v_St_advanceBy (l : Launch) {own : String} {i n0 : Nat} (hl : Cond.methodLink own i yX8_advanceBy ∈ mm_tbl) (hn : 6 ≤ n0) : mm_cok l own n0 i (0, 1, 1, f_St_advanceBy) := Or.inr (Or.inr ⟨rfl, yX8_advanceBy, cX8_advanceBy, 3, (some .int), 5, 8, TX8, 9, i_St_advanceBy l, hn, by decide, by decide +kernel, rfl, fun _ _ _ e => (mm_gd_inv (mm_ga_inv e).2).2, hl, q_1329, q_1330, q_174, q_1331⟩)
def p_St_wouldDouble : mm_P := ([(0, .iconst 0, 1, 0), (1, .istore_n 1, 1, 0), (2, .iload_n 1, 1, 0), (3, .aload_n 0, 1, 0), (4, .getfield 49, 3, 0), (7, .getfield 134, 3, 0), (10, .if_icmp .ge 99, 3, 0), (13, .aload_n 0, 1, 0), (14, .getfield 49, 3, 0), (17, .getfield 144, 3, 0), (20, .iload_n 1, 1, 0), (21, .iaload, 1, 0), (22, .istore_n 2, 1, 0), (23, .iconst 0, 1, 0), (24, .istore_n 3, 1, 0), (25, .iload_n 3, 1, 0), (26, .aload_n 0, 1, 0), (27, .getfield 12, 3, 0), (30, .getfield 150, 3, 0), (33, .if_icmp .ge 70, 3, 0), (36, .aload_n 0, 1, 0), (37, .getfield 49, 3, 0), (40, .getfield 90, 3, 0), (43, .iload_n 1, 1, 0), (44, .iaload, 1, 0), (45, .iconst 2, 1, 2), (46, .if_icmp .ne 57, 3, 0), (49, .aload_n 0, 1, 0), (50, .getfield 12, 3, 0), (53, .getfield 198, 3, 0), (56, .iload_n 3, 1, 0), (57, .ishr, 1, 0), (58, .iconst 1, 1, 1), (59, .iand, 1, 0), (60, .ifCond .eq 7, 3, 0), (63, .iconst 1, 1, 1), (64, .goto 4, 3, 0), (67, .iconst 0, 1, 0), (68, .istore 4, 2, 0), (70, .iload 4, 2, 0), (72, .ifCond .eq 25, 3, 0), (75, .aload_n 0, 1, 0), (76, .getfield 12, 3, 0), (79, .iload_n 2, 1, 0), (80, .aload_n 0, 1, 0), (81, .getfield 12, 3, 0), (84, .iload_n 3, 1, 0), (85, .iload_n 2, 1, 0), (86, .invokevirtual 147, 3, 0), (89, .invokevirtual 219, 3, 0), (92, .ifCond .eq 5, 3, 0), (95, .iconst 1, 1, 1), (96, .ireturn, 1, 0), (97, .iinc 3 1, 3, 1), (100, .goto (-75), 3, 0), (103, .iinc 1 1, 3, 1), (106, .goto (-104), 3, 0), (109, .iconst 0, 1, 0), (110, .ireturn, 1, 0)], [(12, 8, 0, 4), (49, 8, 6, 2), (90, 4, 0, 4), (134, 4, 10, 0), (144, 4, 1, 4), (150, 7, 1, 0), (198, 7, 3, 0)], [(147, 0, 2, 1, f_Rw_valueOf), (219, 0, 2, 1, f_Rw_having)], [], [], [(0, [0]), (2, [0, 1]), (25, [0, 1, 2, 3])], [], 1)
def f_St_wouldDouble : mm_F := fun args h => mm_ga [1] args (mm_gd 8 args h (mm_run p_St_wouldDouble (mm_fu + 1) 0 args [] h))
set_option maxRecDepth 100000 in
theorem e_St_wouldDouble_0 (f : Nat) (t : Nat) (h : mm_H) : mm_run p_St_wouldDouble (f + 1) 0 [.ref t] [] h =
  mm_run p_St_wouldDouble f 2 [.ref t, .int 0] [] h := rfl
theorem e_St_wouldDouble (t : Nat) (h : mm_H) {fs : List Value} (hb : h t = some (.inr (8, fs))) : f_St_wouldDouble [.ref t] h =
  mm_run p_St_wouldDouble mm_fu 2 [.ref t, .int 0] [] h := (mm_ga_is rfl).trans ((mm_gd_is hb).trans (e_St_wouldDouble_0 mm_fu t h))
set_option maxRecDepth 100000 in
theorem e_St_wouldDouble_2 (f : Nat) (t : Nat) (v1 : Int32) (h : mm_H) : mm_run p_St_wouldDouble (f + 1) 2 [.ref t, .int v1] [] h =
  (mm_gr 8 6 h t).bind fun r1 =>
  (mm_gi 4 10 h r1).bind fun x2 =>
  if v1 < x2 then
    (mm_gr 8 6 h t).bind fun r3 =>
    (mm_gr 4 1 h r3).bind fun r4 =>
    (mm_li h r4 v1).bind fun x5 =>
    mm_run p_St_wouldDouble f 25 [.ref t, .int v1, .int x5, .int 0] [] h
  else
    some (some (.int 0), h) := rfl
set_option maxRecDepth 100000 in
theorem e_St_wouldDouble_25 (f : Nat) (t : Nat) (v1 : Int32) (v2 : Int32) (v3 : Int32) (h : mm_H) : mm_run p_St_wouldDouble (f + 1) 25 [.ref t, .int v1, .int v2, .int v3] [] h =
  (mm_gr 8 0 h t).bind fun r1 =>
  (mm_gi 7 1 h r1).bind fun x2 =>
  if v3 < x2 then
    (mm_gr 8 6 h t).bind fun r3 =>
    (mm_gr 4 0 h r3).bind fun r4 =>
    (mm_li h r4 v1).bind fun x5 =>
    if x5 = 2 then
      (mm_gr 8 0 h t).bind fun r6 =>
      (mm_gi 7 3 h r6).bind fun x7 =>
      if ((x7 >>> (v3 &&& 31)) &&& 1) = 0 then
        mm_run p_St_wouldDouble f 25 [.ref t, .int v1, .int v2, .int (v3 + 1)] [] h
      else
        (mm_gr 8 0 h t).bind fun r8 =>
        (mm_gr 8 0 h t).bind fun r9 =>
        mm_ci (f_Rw_valueOf [.ref r9, .int v3, .int v2] h) fun x11 h10 =>
        mm_ci (f_Rw_having [.ref r8, .int v2, .int x11] h10) fun x13 h12 =>
        if x13 = 0 then
          mm_run p_St_wouldDouble f 25 [.ref t, .int v1, .int v2, .int (v3 + 1)] [] h12
        else
          some (some (.int 1), h12)
    else
      mm_run p_St_wouldDouble f 2 [.ref t, .int (v1 + 1)] [] h
  else
    mm_run p_St_wouldDouble f 2 [.ref t, .int (v1 + 1)] [] h := rfl
set_option maxRecDepth 100000 in
theorem i_St_wouldDouble (l : Launch) : mm_Imp l yX8_wouldDouble cX8_wouldDouble 5 (some .boolean) 2 f_St_wouldDouble := mm_imp l (P := p_St_wouldDouble) mm_cls_ok mm_sys_ok (by decide) (mm_Pok_of (List.forall_mem_cons.mpr ⟨k_X8_12, (List.forall_mem_cons.mpr ⟨k_X8_49, (List.forall_mem_cons.mpr ⟨k_X8_90, (List.forall_mem_cons.mpr ⟨k_X8_134, (List.forall_mem_cons.mpr ⟨k_X8_144, (List.forall_mem_cons.mpr ⟨k_X8_150, (List.forall_mem_cons.mpr ⟨k_X8_198, (fun _ h => absurd h List.not_mem_nil)⟩)⟩)⟩)⟩)⟩)⟩)⟩) (List.forall_mem_cons.mpr ⟨v_Rw_valueOf l q_907 (by decide), (List.forall_mem_cons.mpr ⟨v_Rw_having l q_1054 (by decide), (fun _ h => absurd h List.not_mem_nil)⟩)⟩) (fun _ h => absurd h List.not_mem_nil) (fun _ h => absurd h List.not_mem_nil)) (by decide +kernel) rfl (cats := [1]) (fun as h r e => ⟨(mm_ga_inv e).1, (mm_gd_inv (mm_ga_inv e).2).1⟩) rfl (by decide)
theorem v_St_wouldDouble (l : Launch) {own : String} {i n0 : Nat} (hl : Cond.methodLink own i yX8_wouldDouble ∈ mm_tbl) (hn : 3 ≤ n0) : mm_cok l own n0 i (0, 0, 1, f_St_wouldDouble) := Or.inr (Or.inr ⟨rfl, yX8_wouldDouble, cX8_wouldDouble, 5, (some .boolean), 2, 8, TX8, 9, i_St_wouldDouble l, hn, by decide, by decide +kernel, rfl, fun _ _ _ e => (mm_gd_inv (mm_ga_inv e).2).2, hl, q_1265, q_43, q_174, q_1266⟩)
def p_Pt_bringBack : mm_P := ([(0, .iconst 0, 1, 0), (1, .istore_n 1, 1, 0), (2, .iload_n 1, 1, 0), (3, .aload_n 0, 1, 0), (4, .getfield 21, 3, 0), (7, .if_icmp .ge 31, 3, 0), (10, .aload_n 0, 1, 0), (11, .getfield 18, 3, 0), (14, .iload_n 1, 1, 0), (15, .iaload, 1, 0), (16, .iconst (-1), 1, (-1)), (17, .if_icmp .eq 15, 3, 0), (20, .aload_n 0, 1, 0), (21, .getfield 15, 3, 0), (24, .iload_n 1, 1, 0), (25, .aload_n 0, 1, 0), (26, .getfield 18, 3, 0), (29, .iload_n 1, 1, 0), (30, .iaload, 1, 0), (31, .iastore, 1, 0), (32, .iinc 1 1, 3, 1), (35, .goto (-33), 3, 0), (38, .aload_n 0, 1, 0), (39, .invokevirtual 42, 3, 0), (42, .return_, 1, 0)], [(15, 5, 1, 4), (18, 5, 2, 4), (21, 5, 3, 0)], [(42, 0, 0, 0, f_Pt_forgetBefore)], [], [], [(0, [0]), (2, [0, 1])], [], 0)
def f_Pt_bringBack : mm_F := fun args h => mm_ga [1] args (mm_gd 5 args h (mm_run p_Pt_bringBack (mm_fu + 1) 0 args [] h))
set_option maxRecDepth 100000 in
theorem e_Pt_bringBack_0 (f : Nat) (t : Nat) (h : mm_H) : mm_run p_Pt_bringBack (f + 1) 0 [.ref t] [] h =
  mm_run p_Pt_bringBack f 2 [.ref t, .int 0] [] h := rfl
theorem e_Pt_bringBack (t : Nat) (h : mm_H) {fs : List Value} (hb : h t = some (.inr (5, fs))) : f_Pt_bringBack [.ref t] h =
  mm_run p_Pt_bringBack mm_fu 2 [.ref t, .int 0] [] h := (mm_ga_is rfl).trans ((mm_gd_is hb).trans (e_Pt_bringBack_0 mm_fu t h))
set_option maxRecDepth 100000 in
theorem e_Pt_bringBack_2 (f : Nat) (t : Nat) (v1 : Int32) (h : mm_H) : mm_run p_Pt_bringBack (f + 1) 2 [.ref t, .int v1] [] h =
  (mm_gi 5 3 h t).bind fun x1 =>
  if v1 < x1 then
    (mm_gr 5 2 h t).bind fun r2 =>
    (mm_li h r2 v1).bind fun x3 =>
    if x3 = (-1) then
      mm_run p_Pt_bringBack f 2 [.ref t, .int (v1 + 1)] [] h
    else
      (mm_gr 5 1 h t).bind fun r4 =>
      (mm_gr 5 2 h t).bind fun r5 =>
      (mm_li h r5 v1).bind fun x6 =>
      (mm_si h r4 v1 x6).bind fun h7 =>
      mm_run p_Pt_bringBack f 2 [.ref t, .int (v1 + 1)] [] h7
  else
    mm_cv (f_Pt_forgetBefore [.ref t] h) fun h8 =>
    some (none, h8) := rfl
set_option maxRecDepth 100000 in
theorem i_Pt_bringBack (l : Launch) : mm_Imp l yX5_bringBack cX5_bringBack 2 none 2 f_Pt_bringBack := mm_imp l (P := p_Pt_bringBack) mm_cls_ok mm_sys_ok (by decide) (mm_Pok_of (List.forall_mem_cons.mpr ⟨k_X5_15, (List.forall_mem_cons.mpr ⟨k_X5_18, (List.forall_mem_cons.mpr ⟨k_X5_21, (fun _ h => absurd h List.not_mem_nil)⟩)⟩)⟩) (List.forall_mem_cons.mpr ⟨v_Pt_forgetBefore l q_1271 (by decide), (fun _ h => absurd h List.not_mem_nil)⟩) (fun _ h => absurd h List.not_mem_nil) (fun _ h => absurd h List.not_mem_nil)) (by decide +kernel) rfl (cats := [1]) (fun as h r e => ⟨(mm_ga_inv e).1, (mm_gd_inv (mm_ga_inv e).2).1⟩) rfl (by decide)
theorem v_Pt_bringBack (l : Launch) {own : String} {i n0 : Nat} (hl : Cond.methodLink own i yX5_bringBack ∈ mm_tbl) (hn : 3 ≤ n0) : mm_cok l own n0 i (0, 0, 0, f_Pt_bringBack) := Or.inr (Or.inr ⟨rfl, yX5_bringBack, cX5_bringBack, 2, none, 2, 5, TX5, 4, i_Pt_bringBack l, hn, by decide, by decide +kernel, rfl, fun _ _ _ e => (mm_gd_inv (mm_ga_inv e).2).2, hl, q_1268, q_1269, q_176, q_1270⟩)
def p_St_halt : mm_P := ([(0, .aload_n 0, 1, 0), (1, .getfield 34, 3, 0), (4, .invokevirtual 333, 3, 0), (7, .ifCond .eq 30, 3, 0), (10, .aload_n 0, 1, 0), (11, .getfield 34, 3, 0), (14, .getfield 360, 3, 0), (17, .ifCond .gt 20, 3, 0), (20, .aload_n 0, 1, 0), (21, .getfield 34, 3, 0), (24, .getfield 345, 3, 0), (27, .ifCond .gt 10, 3, 0), (30, .aload_n 0, 1, 0), (31, .invokevirtual 363, 3, 0), (34, .ifCond .eq 5, 3, 0), (37, .iconst 0, 1, 0), (38, .ireturn, 1, 0), (39, .aload_n 0, 1, 0), (40, .invokevirtual 351, 3, 0), (43, .aload_n 0, 1, 0), (44, .getfield 21, 3, 0), (47, .invokevirtual 366, 3, 0), (50, .aload_n 0, 1, 0), (51, .invokevirtual 336, 3, 0), (54, .iconst 1, 1, 1), (55, .ireturn, 1, 0)], [(21, 8, 1, 4), (34, 8, 3, 4), (345, 1, 7, 0), (360, 1, 9, 0)], [(333, 0, 0, 1, f_Jb_isRunning), (336, 0, 0, 0, f_St_endJob), (351, 0, 0, 0, f_St_carryOut), (363, 0, 0, 1, f_St_wouldDouble), (366, 0, 0, 0, f_Pt_bringBack)], [], [], [(0, [0])], [], 1)
def f_St_halt : mm_F := fun args h => mm_ga [1] args (mm_gd 8 args h (mm_run p_St_halt (mm_fu + 1) 0 args [] h))
set_option maxRecDepth 100000 in
theorem e_St_halt_0 (f : Nat) (t : Nat) (h : mm_H) : mm_run p_St_halt (f + 1) 0 [.ref t] [] h =
  (mm_gr 8 3 h t).bind fun r1 =>
  mm_ci (f_Jb_isRunning [.ref r1] h) fun x3 h2 =>
  if x3 = 0 then
    some (some (.int 0), h2)
  else
    (mm_gr 8 3 h2 t).bind fun r4 =>
    (mm_gi 1 9 h2 r4).bind fun x5 =>
    if (0 : Int32) < x5 then
      some (some (.int 0), h2)
    else
      (mm_gr 8 3 h2 t).bind fun r6 =>
      (mm_gi 1 7 h2 r6).bind fun x7 =>
      if (0 : Int32) < x7 then
        some (some (.int 0), h2)
      else
        mm_ci (f_St_wouldDouble [.ref t] h2) fun x9 h8 =>
        if x9 = 0 then
          mm_cv (f_St_carryOut [.ref t] h8) fun h10 =>
          (mm_gr 8 1 h10 t).bind fun r11 =>
          mm_cv (f_Pt_bringBack [.ref r11] h10) fun h12 =>
          mm_cv (f_St_endJob [.ref t] h12) fun h13 =>
          some (some (.int 1), h13)
        else
          some (some (.int 0), h8) := rfl
theorem e_St_halt (t : Nat) (h : mm_H) {fs : List Value} (hb : h t = some (.inr (8, fs))) : f_St_halt [.ref t] h =
  (mm_gr 8 3 h t).bind fun r1 =>
  mm_ci (f_Jb_isRunning [.ref r1] h) fun x3 h2 =>
  if x3 = 0 then
    some (some (.int 0), h2)
  else
    (mm_gr 8 3 h2 t).bind fun r4 =>
    (mm_gi 1 9 h2 r4).bind fun x5 =>
    if (0 : Int32) < x5 then
      some (some (.int 0), h2)
    else
      (mm_gr 8 3 h2 t).bind fun r6 =>
      (mm_gi 1 7 h2 r6).bind fun x7 =>
      if (0 : Int32) < x7 then
        some (some (.int 0), h2)
      else
        mm_ci (f_St_wouldDouble [.ref t] h2) fun x9 h8 =>
        if x9 = 0 then
          mm_cv (f_St_carryOut [.ref t] h8) fun h10 =>
          (mm_gr 8 1 h10 t).bind fun r11 =>
          mm_cv (f_Pt_bringBack [.ref r11] h10) fun h12 =>
          mm_cv (f_St_endJob [.ref t] h12) fun h13 =>
          some (some (.int 1), h13)
        else
          some (some (.int 0), h8) := (mm_ga_is rfl).trans ((mm_gd_is hb).trans (e_St_halt_0 mm_fu t h))
set_option maxRecDepth 100000 in
theorem i_St_halt (l : Launch) : mm_Imp l yX8_halt cX8_halt 1 (some .boolean) 4 f_St_halt := mm_imp l (P := p_St_halt) mm_cls_ok mm_sys_ok (by decide) (mm_Pok_of (List.forall_mem_cons.mpr ⟨k_X8_21, (List.forall_mem_cons.mpr ⟨k_X8_34, (List.forall_mem_cons.mpr ⟨k_X8_345, (List.forall_mem_cons.mpr ⟨k_X8_360, (fun _ h => absurd h List.not_mem_nil)⟩)⟩)⟩)⟩) (List.forall_mem_cons.mpr ⟨v_Jb_isRunning l q_1231 (by decide), (List.forall_mem_cons.mpr ⟨v_St_endJob l q_1235 (by decide), (List.forall_mem_cons.mpr ⟨v_St_carryOut l q_1251 (by decide), (List.forall_mem_cons.mpr ⟨v_St_wouldDouble l q_1263 (by decide), (List.forall_mem_cons.mpr ⟨v_Pt_bringBack l q_1267 (by decide), (fun _ h => absurd h List.not_mem_nil)⟩)⟩)⟩)⟩)⟩) (fun _ h => absurd h List.not_mem_nil) (fun _ h => absurd h List.not_mem_nil)) (by decide +kernel) rfl (cats := [1]) (fun as h r e => ⟨(mm_ga_inv e).1, (mm_gd_inv (mm_ga_inv e).2).1⟩) rfl (by decide)
theorem v_St_halt (l : Launch) {own : String} {i n0 : Nat} (hl : Cond.methodLink own i yX8_halt ∈ mm_tbl) (hn : 5 ≤ n0) : mm_cok l own n0 i (0, 0, 1, f_St_halt) := Or.inr (Or.inr ⟨rfl, yX8_halt, cX8_halt, 1, (some .boolean), 4, 8, TX8, 9, i_St_halt l, hn, by decide, by decide +kernel, rfl, fun _ _ _ e => (mm_gd_inv (mm_ga_inv e).2).2, hl, q_1260, q_1261, q_174, q_1262⟩)
def p_St_fall : mm_P := ([(0, .aload_n 0, 1, 0), (1, .getfield 34, 3, 0), (4, .invokevirtual 333, 3, 0), (7, .ifCond .ne 5, 3, 0), (10, .iconst (-1), 1, (-1)), (11, .ireturn, 1, 0), (12, .aload_n 0, 1, 0), (13, .getfield 34, 3, 0), (16, .getfield 345, 3, 0), (19, .istore_n 1, 1, 0), (20, .aload_n 0, 1, 0), (21, .getfield 34, 3, 0), (24, .getfield 207, 3, 0), (27, .aload_n 0, 1, 0), (28, .getfield 49, 3, 0), (31, .getfield 134, 3, 0), (34, .if_icmp .ge 25, 3, 0), (37, .aload_n 0, 1, 0), (38, .getfield 27, 3, 0), (41, .aload_n 0, 1, 0), (42, .getfield 34, 3, 0), (45, .getfield 207, 3, 0), (48, .aaload, 1, 0), (49, .aload_n 0, 1, 0), (50, .getfield 34, 3, 0), (53, .getfield 329, 3, 0), (56, .invokevirtual 67, 3, 0), (59, .aload_n 0, 1, 0), (60, .getfield 34, 3, 0), (63, .dup, 1, 0), (64, .getfield 315, 3, 0), (67, .iload_n 1, 1, 0), (68, .isub, 1, 0), (69, .putfield 315, 3, 0), (72, .aload_n 0, 1, 0), (73, .getfield 34, 3, 0), (76, .iconst 0, 1, 0), (77, .putfield 345, 3, 0), (80, .aload_n 0, 1, 0), (81, .getfield 34, 3, 0), (84, .iconst 1, 1, 1), (85, .putfield 369, 3, 0), (88, .iload_n 1, 1, 0), (89, .ireturn, 1, 0)], [(27, 8, 2, 4), (34, 8, 3, 4), (49, 8, 6, 2), (134, 4, 10, 0), (207, 1, 5, 0), (315, 1, 8, 0), (329, 1, 2, 4), (345, 1, 7, 0), (369, 1, 4, 1)], [(67, 0, 1, 0, f_Lv_become), (333, 0, 0, 1, f_Jb_isRunning)], [], [], [(0, [0])], [], 2)
def f_St_fall : mm_F := fun args h => mm_ga [1] args (mm_gd 8 args h (mm_run p_St_fall (mm_fu + 1) 0 args [] h))
set_option maxRecDepth 100000 in
theorem e_St_fall_0 (f : Nat) (t : Nat) (h : mm_H) : mm_run p_St_fall (f + 1) 0 [.ref t] [] h =
  (mm_gr 8 3 h t).bind fun r1 =>
  mm_ci (f_Jb_isRunning [.ref r1] h) fun x3 h2 =>
  if x3 = 0 then
    some (some (.int (-1)), h2)
  else
    (mm_gr 8 3 h2 t).bind fun r4 =>
    (mm_gi 1 7 h2 r4).bind fun x5 =>
    (mm_gr 8 3 h2 t).bind fun r6 =>
    (mm_gi 1 5 h2 r6).bind fun x7 =>
    (mm_gr 8 6 h2 t).bind fun r8 =>
    (mm_gi 4 10 h2 r8).bind fun x9 =>
    if x7 < x9 then
      (mm_gr 8 2 h2 t).bind fun r10 =>
      (mm_gr 8 3 h2 t).bind fun r11 =>
      (mm_gi 1 5 h2 r11).bind fun x12 =>
      (mm_lr h2 r10 x12).bind fun r13 =>
      (mm_gr 8 3 h2 t).bind fun r14 =>
      (mm_gr 1 2 h2 r14).bind fun r15 =>
      mm_cv (f_Lv_become [.ref r13, .ref r15] h2) fun h16 =>
      (mm_gr 8 3 h16 t).bind fun r17 =>
      (mm_gi 1 8 h16 r17).bind fun x18 =>
      (mm_pf 1 8 (.int (x18 - x5)) h16 r17).bind fun h19 =>
      (mm_gr 8 3 h19 t).bind fun r20 =>
      (mm_pf 1 7 (.int 0) h19 r20).bind fun h21 =>
      (mm_gr 8 3 h21 t).bind fun r22 =>
      (mm_pf 1 4 (.int 1) h21 r22).bind fun h23 =>
      some (some (.int x5), h23)
    else
      (mm_gr 8 3 h2 t).bind fun r24 =>
      (mm_gi 1 8 h2 r24).bind fun x25 =>
      (mm_pf 1 8 (.int (x25 - x5)) h2 r24).bind fun h26 =>
      (mm_gr 8 3 h26 t).bind fun r27 =>
      (mm_pf 1 7 (.int 0) h26 r27).bind fun h28 =>
      (mm_gr 8 3 h28 t).bind fun r29 =>
      (mm_pf 1 4 (.int 1) h28 r29).bind fun h30 =>
      some (some (.int x5), h30) := rfl
theorem e_St_fall (t : Nat) (h : mm_H) {fs : List Value} (hb : h t = some (.inr (8, fs))) : f_St_fall [.ref t] h =
  (mm_gr 8 3 h t).bind fun r1 =>
  mm_ci (f_Jb_isRunning [.ref r1] h) fun x3 h2 =>
  if x3 = 0 then
    some (some (.int (-1)), h2)
  else
    (mm_gr 8 3 h2 t).bind fun r4 =>
    (mm_gi 1 7 h2 r4).bind fun x5 =>
    (mm_gr 8 3 h2 t).bind fun r6 =>
    (mm_gi 1 5 h2 r6).bind fun x7 =>
    (mm_gr 8 6 h2 t).bind fun r8 =>
    (mm_gi 4 10 h2 r8).bind fun x9 =>
    if x7 < x9 then
      (mm_gr 8 2 h2 t).bind fun r10 =>
      (mm_gr 8 3 h2 t).bind fun r11 =>
      (mm_gi 1 5 h2 r11).bind fun x12 =>
      (mm_lr h2 r10 x12).bind fun r13 =>
      (mm_gr 8 3 h2 t).bind fun r14 =>
      (mm_gr 1 2 h2 r14).bind fun r15 =>
      mm_cv (f_Lv_become [.ref r13, .ref r15] h2) fun h16 =>
      (mm_gr 8 3 h16 t).bind fun r17 =>
      (mm_gi 1 8 h16 r17).bind fun x18 =>
      (mm_pf 1 8 (.int (x18 - x5)) h16 r17).bind fun h19 =>
      (mm_gr 8 3 h19 t).bind fun r20 =>
      (mm_pf 1 7 (.int 0) h19 r20).bind fun h21 =>
      (mm_gr 8 3 h21 t).bind fun r22 =>
      (mm_pf 1 4 (.int 1) h21 r22).bind fun h23 =>
      some (some (.int x5), h23)
    else
      (mm_gr 8 3 h2 t).bind fun r24 =>
      (mm_gi 1 8 h2 r24).bind fun x25 =>
      (mm_pf 1 8 (.int (x25 - x5)) h2 r24).bind fun h26 =>
      (mm_gr 8 3 h26 t).bind fun r27 =>
      (mm_pf 1 7 (.int 0) h26 r27).bind fun h28 =>
      (mm_gr 8 3 h28 t).bind fun r29 =>
      (mm_pf 1 4 (.int 1) h28 r29).bind fun h30 =>
      some (some (.int x5), h30) := (mm_ga_is rfl).trans ((mm_gd_is hb).trans (e_St_fall_0 mm_fu t h))
set_option maxRecDepth 100000 in
theorem i_St_fall (l : Launch) : mm_Imp l yX8_fall cX8_fall 2 (some .int) 2 f_St_fall := mm_imp l (P := p_St_fall) mm_cls_ok mm_sys_ok (by decide) (mm_Pok_of (List.forall_mem_cons.mpr ⟨k_X8_27, (List.forall_mem_cons.mpr ⟨k_X8_34, (List.forall_mem_cons.mpr ⟨k_X8_49, (List.forall_mem_cons.mpr ⟨k_X8_134, (List.forall_mem_cons.mpr ⟨k_X8_207, (List.forall_mem_cons.mpr ⟨k_X8_315, (List.forall_mem_cons.mpr ⟨k_X8_329, (List.forall_mem_cons.mpr ⟨k_X8_345, (List.forall_mem_cons.mpr ⟨k_X8_369, (fun _ h => absurd h List.not_mem_nil)⟩)⟩)⟩)⟩)⟩)⟩)⟩)⟩)⟩) (List.forall_mem_cons.mpr ⟨v_Lv_become l q_1025 (by decide), (List.forall_mem_cons.mpr ⟨v_Jb_isRunning l q_1231 (by decide), (fun _ h => absurd h List.not_mem_nil)⟩)⟩) (fun _ h => absurd h List.not_mem_nil) (fun _ h => absurd h List.not_mem_nil)) (by decide +kernel) rfl (cats := [1]) (fun as h r e => ⟨(mm_ga_inv e).1, (mm_gd_inv (mm_ga_inv e).2).1⟩) rfl (by decide)
theorem v_St_fall (l : Launch) {own : String} {i n0 : Nat} (hl : Cond.methodLink own i yX8_fall ∈ mm_tbl) (hn : 3 ≤ n0) : mm_cok l own n0 i (0, 0, 1, f_St_fall) := Or.inr (Or.inr ⟨rfl, yX8_fall, cX8_fall, 2, (some .int), 2, 8, TX8, 9, i_St_fall l, hn, by decide, by decide +kernel, rfl, fun _ _ _ e => (mm_gd_inv (mm_ga_inv e).2).2, hl, q_1277, q_1278, q_174, q_1279⟩)
def p_St_rise : mm_P := ([(0, .aload_n 0, 1, 0), (1, .getfield 34, 3, 0), (4, .getfield 194, 3, 0), (7, .ifCond .eq 13, 3, 0), (10, .aload_n 0, 1, 0), (11, .getfield 34, 3, 0), (14, .getfield 369, 3, 0), (17, .ifCond .ne 5, 3, 0), (20, .iconst 0, 1, 0), (21, .ireturn, 1, 0), (22, .aload_n 0, 1, 0), (23, .getfield 34, 3, 0), (26, .iconst 0, 1, 0), (27, .putfield 369, 3, 0), (30, .aload_n 0, 1, 0), (31, .getfield 34, 3, 0), (34, .getfield 207, 3, 0), (37, .aload_n 0, 1, 0), (38, .getfield 49, 3, 0), (41, .getfield 134, 3, 0), (44, .if_icmp .ge 41, 3, 0), (47, .aload_n 0, 1, 0), (48, .dup, 1, 0), (49, .getfield 45, 3, 0), (52, .aload_n 0, 1, 0), (53, .getfield 27, 3, 0), (56, .aload_n 0, 1, 0), (57, .getfield 34, 3, 0), (60, .getfield 207, 3, 0), (63, .aaload, 1, 0), (64, .aload_n 0, 1, 0), (65, .getfield 34, 3, 0), (68, .getfield 312, 3, 0), (71, .aload_n 0, 1, 0), (72, .getfield 12, 3, 0), (75, .getfield 198, 3, 0), (78, .invokevirtual 372, 3, 0), (81, .iadd, 1, 0), (82, .putfield 45, 3, 0), (85, .iconst 1, 1, 1), (86, .ireturn, 1, 0)], [(12, 8, 0, 4), (27, 8, 2, 4), (34, 8, 3, 4), (45, 8, 8, 0), (49, 8, 6, 2), (134, 4, 10, 0), (194, 1, 3, 1), (198, 7, 3, 0), (207, 1, 5, 0), (312, 1, 6, 0), (369, 1, 4, 1)], [(372, 0, 2, 1, f_Lv_costOf)], [], [], [(0, [0])], [], 1)
def f_St_rise : mm_F := fun args h => mm_ga [1] args (mm_gd 8 args h (mm_run p_St_rise (mm_fu + 1) 0 args [] h))
set_option maxRecDepth 100000 in
theorem e_St_rise_0 (f : Nat) (t : Nat) (h : mm_H) : mm_run p_St_rise (f + 1) 0 [.ref t] [] h =
  (mm_gr 8 3 h t).bind fun r1 =>
  (mm_gi 1 3 h r1).bind fun x2 =>
  if x2 = 0 then
    some (some (.int 0), h)
  else
    (mm_gr 8 3 h t).bind fun r3 =>
    (mm_gi 1 4 h r3).bind fun x4 =>
    if x4 = 0 then
      some (some (.int 0), h)
    else
      (mm_gr 8 3 h t).bind fun r5 =>
      (mm_pf 1 4 (.int 0) h r5).bind fun h6 =>
      (mm_gr 8 3 h6 t).bind fun r7 =>
      (mm_gi 1 5 h6 r7).bind fun x8 =>
      (mm_gr 8 6 h6 t).bind fun r9 =>
      (mm_gi 4 10 h6 r9).bind fun x10 =>
      if x8 < x10 then
        (mm_gi 8 8 h6 t).bind fun x11 =>
        (mm_gr 8 2 h6 t).bind fun r12 =>
        (mm_gr 8 3 h6 t).bind fun r13 =>
        (mm_gi 1 5 h6 r13).bind fun x14 =>
        (mm_lr h6 r12 x14).bind fun r15 =>
        (mm_gr 8 3 h6 t).bind fun r16 =>
        (mm_gi 1 6 h6 r16).bind fun x17 =>
        (mm_gr 8 0 h6 t).bind fun r18 =>
        (mm_gi 7 3 h6 r18).bind fun x19 =>
        mm_ci (f_Lv_costOf [.ref r15, .int x17, .int x19] h6) fun x21 h20 =>
        (mm_pf 8 8 (.int (x11 + x21)) h20 t).bind fun h22 =>
        some (some (.int 1), h22)
      else
        some (some (.int 1), h6) := rfl
theorem e_St_rise (t : Nat) (h : mm_H) {fs : List Value} (hb : h t = some (.inr (8, fs))) : f_St_rise [.ref t] h =
  (mm_gr 8 3 h t).bind fun r1 =>
  (mm_gi 1 3 h r1).bind fun x2 =>
  if x2 = 0 then
    some (some (.int 0), h)
  else
    (mm_gr 8 3 h t).bind fun r3 =>
    (mm_gi 1 4 h r3).bind fun x4 =>
    if x4 = 0 then
      some (some (.int 0), h)
    else
      (mm_gr 8 3 h t).bind fun r5 =>
      (mm_pf 1 4 (.int 0) h r5).bind fun h6 =>
      (mm_gr 8 3 h6 t).bind fun r7 =>
      (mm_gi 1 5 h6 r7).bind fun x8 =>
      (mm_gr 8 6 h6 t).bind fun r9 =>
      (mm_gi 4 10 h6 r9).bind fun x10 =>
      if x8 < x10 then
        (mm_gi 8 8 h6 t).bind fun x11 =>
        (mm_gr 8 2 h6 t).bind fun r12 =>
        (mm_gr 8 3 h6 t).bind fun r13 =>
        (mm_gi 1 5 h6 r13).bind fun x14 =>
        (mm_lr h6 r12 x14).bind fun r15 =>
        (mm_gr 8 3 h6 t).bind fun r16 =>
        (mm_gi 1 6 h6 r16).bind fun x17 =>
        (mm_gr 8 0 h6 t).bind fun r18 =>
        (mm_gi 7 3 h6 r18).bind fun x19 =>
        mm_ci (f_Lv_costOf [.ref r15, .int x17, .int x19] h6) fun x21 h20 =>
        (mm_pf 8 8 (.int (x11 + x21)) h20 t).bind fun h22 =>
        some (some (.int 1), h22)
      else
        some (some (.int 1), h6) := (mm_ga_is rfl).trans ((mm_gd_is hb).trans (e_St_rise_0 mm_fu t h))
set_option maxRecDepth 100000 in
theorem i_St_rise (l : Launch) : mm_Imp l yX8_rise cX8_rise 1 (some .boolean) 4 f_St_rise := mm_imp l (P := p_St_rise) mm_cls_ok mm_sys_ok (by decide) (mm_Pok_of (List.forall_mem_cons.mpr ⟨k_X8_12, (List.forall_mem_cons.mpr ⟨k_X8_27, (List.forall_mem_cons.mpr ⟨k_X8_34, (List.forall_mem_cons.mpr ⟨k_X8_45, (List.forall_mem_cons.mpr ⟨k_X8_49, (List.forall_mem_cons.mpr ⟨k_X8_134, (List.forall_mem_cons.mpr ⟨k_X8_194, (List.forall_mem_cons.mpr ⟨k_X8_198, (List.forall_mem_cons.mpr ⟨k_X8_207, (List.forall_mem_cons.mpr ⟨k_X8_312, (List.forall_mem_cons.mpr ⟨k_X8_369, (fun _ h => absurd h List.not_mem_nil)⟩)⟩)⟩)⟩)⟩)⟩)⟩)⟩)⟩)⟩)⟩) (List.forall_mem_cons.mpr ⟨v_Lv_costOf l q_1288 (by decide), (fun _ h => absurd h List.not_mem_nil)⟩) (fun _ h => absurd h List.not_mem_nil) (fun _ h => absurd h List.not_mem_nil)) (by decide +kernel) rfl (cats := [1]) (fun as h r e => ⟨(mm_ga_inv e).1, (mm_gd_inv (mm_ga_inv e).2).1⟩) rfl (by decide)
theorem v_St_rise (l : Launch) {own : String} {i n0 : Nat} (hl : Cond.methodLink own i yX8_rise ∈ mm_tbl) (hn : 5 ≤ n0) : mm_cok l own n0 i (0, 0, 1, f_St_rise) := Or.inr (Or.inr ⟨rfl, yX8_rise, cX8_rise, 1, (some .boolean), 4, 8, TX8, 9, i_St_rise l, hn, by decide, by decide +kernel, rfl, fun _ _ _ e => (mm_gd_inv (mm_ga_inv e).2).2, hl, q_1285, q_1286, q_174, q_1287⟩)
def p_St_join : mm_P := ([(0, .iload_n 1, 1, 0), (1, .ifCond .lt 25, 3, 0), (4, .iload_n 1, 1, 0), (5, .aload_n 0, 1, 0), (6, .getfield 49, 3, 0), (9, .getfield 134, 3, 0), (12, .if_icmp .ge 14, 3, 0), (15, .aload_n 0, 1, 0), (16, .getfield 34, 3, 0), (19, .iload_n 1, 1, 0), (20, .invokevirtual 284, 3, 0), (23, .ifCond .eq 5, 3, 0), (26, .iconst (-1), 1, (-1)), (27, .ireturn, 1, 0), (28, .aload_n 0, 1, 0), (29, .dup, 1, 0), (30, .getfield 45, 3, 0), (33, .aload_n 0, 1, 0), (34, .getfield 27, 3, 0), (37, .iload_n 1, 1, 0), (38, .aaload, 1, 0), (39, .getfield 185, 3, 0), (42, .iadd, 1, 0), (43, .putfield 45, 3, 0), (46, .aload_n 0, 1, 0), (47, .getfield 27, 3, 0), (50, .iload_n 1, 1, 0), (51, .aaload, 1, 0), (52, .invokevirtual 375, 3, 0), (55, .ireturn, 1, 0)], [(27, 8, 2, 4), (34, 8, 3, 4), (45, 8, 8, 0), (49, 8, 6, 2), (134, 4, 10, 0), (185, 2, 3, 0)], [(284, 0, 1, 1, f_Jb_isAt), (375, 0, 0, 1, f_Lv_takeTogether)], [], [], [(0, [0, 1])], [], 2)
def f_St_join : mm_F := fun args h => mm_ga [1, 1] args (mm_gd 8 args h (mm_run p_St_join (mm_fu + 1) 0 args [] h))
set_option maxRecDepth 100000 in
theorem e_St_join_0 (f : Nat) (t : Nat) (v1 : Int32) (h : mm_H) : mm_run p_St_join (f + 1) 0 [.ref t, .int v1] [] h =
  if v1 < 0 then
    some (some (.int (-1)), h)
  else
    (mm_gr 8 6 h t).bind fun r1 =>
    (mm_gi 4 10 h r1).bind fun x2 =>
    if v1 < x2 then
      (mm_gr 8 3 h t).bind fun r3 =>
      mm_ci (f_Jb_isAt [.ref r3, .int v1] h) fun x5 h4 =>
      if x5 = 0 then
        (mm_gi 8 8 h4 t).bind fun x6 =>
        (mm_gr 8 2 h4 t).bind fun r7 =>
        (mm_lr h4 r7 v1).bind fun r8 =>
        (mm_gi 2 3 h4 r8).bind fun x9 =>
        (mm_pf 8 8 (.int (x6 + x9)) h4 t).bind fun h10 =>
        (mm_gr 8 2 h10 t).bind fun r11 =>
        (mm_lr h10 r11 v1).bind fun r12 =>
        mm_ci (f_Lv_takeTogether [.ref r12] h10) fun x14 h13 =>
        some (some (.int x14), h13)
      else
        some (some (.int (-1)), h4)
    else
      some (some (.int (-1)), h) := rfl
theorem e_St_join (t : Nat) (v1 : Int32) (h : mm_H) {fs : List Value} (hb : h t = some (.inr (8, fs))) : f_St_join [.ref t, .int v1] h =
  if v1 < 0 then
    some (some (.int (-1)), h)
  else
    (mm_gr 8 6 h t).bind fun r1 =>
    (mm_gi 4 10 h r1).bind fun x2 =>
    if v1 < x2 then
      (mm_gr 8 3 h t).bind fun r3 =>
      mm_ci (f_Jb_isAt [.ref r3, .int v1] h) fun x5 h4 =>
      if x5 = 0 then
        (mm_gi 8 8 h4 t).bind fun x6 =>
        (mm_gr 8 2 h4 t).bind fun r7 =>
        (mm_lr h4 r7 v1).bind fun r8 =>
        (mm_gi 2 3 h4 r8).bind fun x9 =>
        (mm_pf 8 8 (.int (x6 + x9)) h4 t).bind fun h10 =>
        (mm_gr 8 2 h10 t).bind fun r11 =>
        (mm_lr h10 r11 v1).bind fun r12 =>
        mm_ci (f_Lv_takeTogether [.ref r12] h10) fun x14 h13 =>
        some (some (.int x14), h13)
      else
        some (some (.int (-1)), h4)
    else
      some (some (.int (-1)), h) := (mm_ga_is rfl).trans ((mm_gd_is hb).trans (e_St_join_0 mm_fu t v1 h))
set_option maxRecDepth 100000 in
theorem i_St_join (l : Launch) : mm_Imp l yX8_join cX8_join 2 (some .int) 2 f_St_join := mm_imp l (P := p_St_join) mm_cls_ok mm_sys_ok (by decide) (mm_Pok_of (List.forall_mem_cons.mpr ⟨k_X8_27, (List.forall_mem_cons.mpr ⟨k_X8_34, (List.forall_mem_cons.mpr ⟨k_X8_45, (List.forall_mem_cons.mpr ⟨k_X8_49, (List.forall_mem_cons.mpr ⟨k_X8_134, (List.forall_mem_cons.mpr ⟨k_X8_185, (fun _ h => absurd h List.not_mem_nil)⟩)⟩)⟩)⟩)⟩)⟩) (List.forall_mem_cons.mpr ⟨v_Jb_isAt l q_1071 (by decide), (List.forall_mem_cons.mpr ⟨v_Lv_takeTogether l q_1307 (by decide), (fun _ h => absurd h List.not_mem_nil)⟩)⟩) (fun _ h => absurd h List.not_mem_nil) (fun _ h => absurd h List.not_mem_nil)) (by decide +kernel) rfl (cats := [1, 1]) (fun as h r e => ⟨(mm_ga_inv e).1, (mm_gd_inv (mm_ga_inv e).2).1⟩) rfl (by decide)
theorem v_St_join (l : Launch) {own : String} {i n0 : Nat} (hl : Cond.methodLink own i yX8_join ∈ mm_tbl) (hn : 3 ≤ n0) : mm_cok l own n0 i (0, 1, 1, f_St_join) := Or.inr (Or.inr ⟨rfl, yX8_join, cX8_join, 2, (some .int), 2, 8, TX8, 9, i_St_join l, hn, by decide, by decide +kernel, rfl, fun _ _ _ e => (mm_gd_inv (mm_ga_inv e).2).2, hl, q_1304, q_1305, q_174, q_1306⟩)
def p_Ln_play : mm_P := ([(0, .aload_n 0, 1, 0), (1, .getfield 15, 3, 0), (4, .iload_n 1, 1, 0), (5, .iconst 3, 1, 3), (6, .imul, 1, 0), (7, .iaload, 1, 0), (8, .istore_n 3, 1, 0), (9, .aload_n 0, 1, 0), (10, .getfield 15, 3, 0), (13, .iload_n 1, 1, 0), (14, .iconst 3, 1, 3), (15, .imul, 1, 0), (16, .iconst 1, 1, 1), (17, .iadd, 1, 0), (18, .iaload, 1, 0), (19, .istore 4, 2, 0), (21, .aload_n 0, 1, 0), (22, .getfield 15, 3, 0), (25, .iload_n 1, 1, 0), (26, .iconst 3, 1, 3), (27, .imul, 1, 0), (28, .iconst 2, 1, 2), (29, .iadd, 1, 0), (30, .iaload, 1, 0), (31, .istore 5, 2, 0), (33, .aload_n 0, 1, 0), (34, .getfield 9, 3, 0), (37, .iload_n 1, 1, 0), (38, .iaload, 1, 0), (39, .tableswitch 127 9 16 #[45, 64, 70, 80, 88, 103, 108, 122], 45, 0), (84, .aload_n 2, 1, 0), (85, .iload_n 3, 1, 0), (86, .iload 4, 2, 0), (88, .iload 5, 2, 0), (90, .invokevirtual 22, 3, 0), (93, .iconst (-1), 1, (-1)), (94, .if_icmp .eq 7, 3, 0), (97, .iconst 1, 1, 1), (98, .goto 4, 3, 0), (101, .iconst 0, 1, 0), (102, .ireturn, 1, 0), (103, .aload_n 2, 1, 0), (104, .iload_n 3, 1, 0), (105, .invokevirtual 28, 3, 0), (108, .ireturn, 1, 0), (109, .aload_n 2, 1, 0), (110, .iload_n 3, 1, 0), (111, .iload 4, 2, 0), (113, .iload 5, 2, 0), (115, .invokevirtual 32, 3, 0), (118, .ireturn, 1, 0), (119, .aload_n 2, 1, 0), (120, .iconst (-1), 1, (-1)), (121, .iconst 0, 1, 0), (122, .iconst 0, 1, 0), (123, .invokevirtual 36, 3, 0), (126, .ireturn, 1, 0), (127, .aload_n 2, 1, 0), (128, .iload_n 3, 1, 0), (129, .invokevirtual 39, 3, 0), (132, .iload_n 3, 1, 0), (133, .if_icmp .ne 7, 3, 0), (136, .iconst 1, 1, 1), (137, .goto 4, 3, 0), (140, .iconst 0, 1, 0), (141, .ireturn, 1, 0), (142, .aload_n 2, 1, 0), (143, .invokevirtual 43, 3, 0), (146, .ireturn, 1, 0), (147, .aload_n 2, 1, 0), (148, .invokevirtual 47, 3, 0), (151, .iconst (-1), 1, (-1)), (152, .if_icmp .eq 7, 3, 0), (155, .iconst 1, 1, 1), (156, .goto 4, 3, 0), (159, .iconst 0, 1, 0), (160, .ireturn, 1, 0), (161, .aload_n 2, 1, 0), (162, .invokevirtual 51, 3, 0), (165, .ireturn, 1, 0), (166, .aload_n 2, 1, 0), (167, .iload_n 3, 1, 0), (168, .invokevirtual 54, 3, 0), (171, .iconst (-1), 1, (-1)), (172, .if_icmp .eq 7, 3, 0), (175, .iconst 1, 1, 1), (176, .goto 4, 3, 0), (179, .iconst 0, 1, 0), (180, .ireturn, 1, 0)], [(9, 3, 0, 4), (15, 3, 1, 4)], [(22, 0, 3, 1, f_St_admit), (28, 0, 1, 1, f_St_expel), (32, 0, 3, 1, f_St_amend), (36, 0, 3, 1, f_St_launch), (39, 0, 1, 1, f_St_advanceBy), (43, 0, 0, 1, f_St_halt), (47, 0, 0, 1, f_St_fall), (51, 0, 0, 1, f_St_rise), (54, 0, 1, 1, f_St_join)], [], [], [(0, [0, 1, 2])], [(39, [(9, 84), (10, 103), (11, 109), (12, 119), (13, 127), (14, 142), (15, 147), (16, 161)], 166)], 1)
def f_Ln_play : mm_F := fun args h => mm_ga [1, 1, 1] args (mm_gd 3 args h (mm_run p_Ln_play (mm_fu + 1) 0 args [] h))
set_option maxRecDepth 100000 in
theorem e_Ln_play_0 (f : Nat) (t : Nat) (v1 : Int32) (v2 : Nat) (h : mm_H) : mm_run p_Ln_play (f + 1) 0 [.ref t, .int v1, .ref v2] [] h =
  (mm_gr 3 1 h t).bind fun r1 =>
  (mm_li h r1 (v1 * 3)).bind fun x2 =>
  (mm_gr 3 1 h t).bind fun r3 =>
  (mm_li h r3 ((v1 * 3) + 1)).bind fun x4 =>
  (mm_gr 3 1 h t).bind fun r5 =>
  (mm_li h r5 ((v1 * 3) + 2)).bind fun x6 =>
  (mm_gr 3 0 h t).bind fun r7 =>
  (mm_li h r7 v1).bind fun x8 =>
  if x8 = 9 then
    mm_ci (f_St_admit [.ref v2, .int x2, .int x4, .int x6] h) fun x10 h9 =>
    if x10 = (-1) then
      some (some (.int 0), h9)
    else
      some (some (.int 1), h9)
  else if x8 = 10 then
    mm_ci (f_St_expel [.ref v2, .int x2] h) fun x12 h11 =>
    if x12 = 0 ∨ x12 = 1 then some (some (.int x12), h11) else none
  else if x8 = 11 then
    mm_ci (f_St_amend [.ref v2, .int x2, .int x4, .int x6] h) fun x14 h13 =>
    if x14 = 0 ∨ x14 = 1 then some (some (.int x14), h13) else none
  else if x8 = 12 then
    mm_ci (f_St_launch [.ref v2, .int (-1), .int 0, .int 0] h) fun x16 h15 =>
    if x16 = 0 ∨ x16 = 1 then some (some (.int x16), h15) else none
  else if x8 = 13 then
    mm_ci (f_St_advanceBy [.ref v2, .int x2] h) fun x18 h17 =>
    if x18 = x2 then
      some (some (.int 1), h17)
    else
      some (some (.int 0), h17)
  else if x8 = 14 then
    mm_ci (f_St_halt [.ref v2] h) fun x20 h19 =>
    if x20 = 0 ∨ x20 = 1 then some (some (.int x20), h19) else none
  else if x8 = 15 then
    mm_ci (f_St_fall [.ref v2] h) fun x22 h21 =>
    if x22 = (-1) then
      some (some (.int 0), h21)
    else
      some (some (.int 1), h21)
  else if x8 = 16 then
    mm_ci (f_St_rise [.ref v2] h) fun x24 h23 =>
    if x24 = 0 ∨ x24 = 1 then some (some (.int x24), h23) else none
  else 
    mm_ci (f_St_join [.ref v2, .int x2] h) fun x26 h25 =>
    if x26 = (-1) then
      some (some (.int 0), h25)
    else
      some (some (.int 1), h25) := rfl
theorem e_Ln_play (t : Nat) (v1 : Int32) (v2 : Nat) (h : mm_H) {fs : List Value} (hb : h t = some (.inr (3, fs))) : f_Ln_play [.ref t, .int v1, .ref v2] h =
  (mm_gr 3 1 h t).bind fun r1 =>
  (mm_li h r1 (v1 * 3)).bind fun x2 =>
  (mm_gr 3 1 h t).bind fun r3 =>
  (mm_li h r3 ((v1 * 3) + 1)).bind fun x4 =>
  (mm_gr 3 1 h t).bind fun r5 =>
  (mm_li h r5 ((v1 * 3) + 2)).bind fun x6 =>
  (mm_gr 3 0 h t).bind fun r7 =>
  (mm_li h r7 v1).bind fun x8 =>
  if x8 = 9 then
    mm_ci (f_St_admit [.ref v2, .int x2, .int x4, .int x6] h) fun x10 h9 =>
    if x10 = (-1) then
      some (some (.int 0), h9)
    else
      some (some (.int 1), h9)
  else if x8 = 10 then
    mm_ci (f_St_expel [.ref v2, .int x2] h) fun x12 h11 =>
    if x12 = 0 ∨ x12 = 1 then some (some (.int x12), h11) else none
  else if x8 = 11 then
    mm_ci (f_St_amend [.ref v2, .int x2, .int x4, .int x6] h) fun x14 h13 =>
    if x14 = 0 ∨ x14 = 1 then some (some (.int x14), h13) else none
  else if x8 = 12 then
    mm_ci (f_St_launch [.ref v2, .int (-1), .int 0, .int 0] h) fun x16 h15 =>
    if x16 = 0 ∨ x16 = 1 then some (some (.int x16), h15) else none
  else if x8 = 13 then
    mm_ci (f_St_advanceBy [.ref v2, .int x2] h) fun x18 h17 =>
    if x18 = x2 then
      some (some (.int 1), h17)
    else
      some (some (.int 0), h17)
  else if x8 = 14 then
    mm_ci (f_St_halt [.ref v2] h) fun x20 h19 =>
    if x20 = 0 ∨ x20 = 1 then some (some (.int x20), h19) else none
  else if x8 = 15 then
    mm_ci (f_St_fall [.ref v2] h) fun x22 h21 =>
    if x22 = (-1) then
      some (some (.int 0), h21)
    else
      some (some (.int 1), h21)
  else if x8 = 16 then
    mm_ci (f_St_rise [.ref v2] h) fun x24 h23 =>
    if x24 = 0 ∨ x24 = 1 then some (some (.int x24), h23) else none
  else 
    mm_ci (f_St_join [.ref v2, .int x2] h) fun x26 h25 =>
    if x26 = (-1) then
      some (some (.int 0), h25)
    else
      some (some (.int 1), h25) := (mm_ga_is rfl).trans ((mm_gd_is hb).trans (e_Ln_play_0 mm_fu t v1 v2 h))
set_option maxRecDepth 100000 in
theorem i_Ln_play (l : Launch) : mm_Imp l yX3_play cX3_play 6 (some .boolean) 6 f_Ln_play := mm_imp l (P := p_Ln_play) mm_cls_ok mm_sys_ok (by decide) (mm_Pok_of (List.forall_mem_cons.mpr ⟨k_X3_9, (List.forall_mem_cons.mpr ⟨k_X3_15, (fun _ h => absurd h List.not_mem_nil)⟩)⟩) (List.forall_mem_cons.mpr ⟨v_St_admit l q_1324 (by decide), (List.forall_mem_cons.mpr ⟨v_St_expel l q_1325 (by decide), (List.forall_mem_cons.mpr ⟨v_St_amend l q_1326 (by decide), (List.forall_mem_cons.mpr ⟨v_St_launch l q_1327 (by decide), (List.forall_mem_cons.mpr ⟨v_St_advanceBy l q_1328 (by decide), (List.forall_mem_cons.mpr ⟨v_St_halt l q_1333 (by decide), (List.forall_mem_cons.mpr ⟨v_St_fall l q_1334 (by decide), (List.forall_mem_cons.mpr ⟨v_St_rise l q_1335 (by decide), (List.forall_mem_cons.mpr ⟨v_St_join l q_1336 (by decide), (fun _ h => absurd h List.not_mem_nil)⟩)⟩)⟩)⟩)⟩)⟩)⟩)⟩)⟩) (fun _ h => absurd h List.not_mem_nil) (fun _ h => absurd h List.not_mem_nil)) (by decide +kernel) rfl (cats := [1, 1, 1]) (fun as h r e => ⟨(mm_ga_inv e).1, (mm_gd_inv (mm_ga_inv e).2).1⟩) rfl (by decide)
theorem v_Ln_play (l : Launch) {own : String} {i n0 : Nat} (hl : Cond.methodLink own i yX3_play ∈ mm_tbl) (hn : 7 ≤ n0) : mm_cok l own n0 i (0, 2, 1, f_Ln_play) := Or.inr (Or.inr ⟨rfl, yX3_play, cX3_play, 6, (some .boolean), 6, 3, TX3, 3, i_Ln_play l, hn, by decide, by decide +kernel, rfl, fun _ _ _ e => (mm_gd_inv (mm_ga_inv e).2).2, hl, q_1321, q_1322, q_172, q_1323⟩)
def p_Pl_clear : mm_P := ([(0, .aload_n 0, 1, 0), (1, .iconst 4, 1, 4), (2, .putfield 41, 3, 0), (5, .aload_n 0, 1, 0), (6, .iconst 2, 1, 2), (7, .putfield 45, 3, 0), (10, .aload_n 0, 1, 0), (11, .iconst 0, 1, 0), (12, .putfield 48, 3, 0), (15, .aload_n 0, 1, 0), (16, .iconst 0, 1, 0), (17, .putfield 51, 3, 0), (20, .aload_n 0, 1, 0), (21, .iconst 0, 1, 0), (22, .putfield 54, 3, 0), (25, .aload_n 0, 1, 0), (26, .getfield 34, 3, 0), (29, .iconst 0, 1, 0), (30, .putfield 57, 3, 0), (33, .aload_n 0, 1, 0), (34, .getfield 38, 3, 0), (37, .iconst 0, 1, 0), (38, .putfield 57, 3, 0), (41, .return_, 1, 0)], [(34, 4, 6, 4), (38, 4, 7, 4), (41, 4, 8, 0), (45, 4, 9, 0), (48, 4, 10, 0), (51, 4, 11, 0), (54, 4, 12, 0), (57, 10, 6, 0)], [], [], [], [(0, [0])], [], 0)
def f_Pl_clear : mm_F := fun args h => mm_ga [1] args (mm_gd 4 args h (mm_run p_Pl_clear (mm_fu + 1) 0 args [] h))
set_option maxRecDepth 100000 in
theorem e_Pl_clear_0 (f : Nat) (t : Nat) (h : mm_H) : mm_run p_Pl_clear (f + 1) 0 [.ref t] [] h =
  (mm_pf 4 8 (.int 4) h t).bind fun h1 =>
  (mm_pf 4 9 (.int 2) h1 t).bind fun h2 =>
  (mm_pf 4 10 (.int 0) h2 t).bind fun h3 =>
  (mm_pf 4 11 (.int 0) h3 t).bind fun h4 =>
  (mm_pf 4 12 (.int 0) h4 t).bind fun h5 =>
  (mm_gr 4 6 h5 t).bind fun r6 =>
  (mm_pf 10 6 (.int 0) h5 r6).bind fun h7 =>
  (mm_gr 4 7 h7 t).bind fun r8 =>
  (mm_pf 10 6 (.int 0) h7 r8).bind fun h9 =>
  some (none, h9) := rfl
theorem e_Pl_clear (t : Nat) (h : mm_H) {fs : List Value} (hb : h t = some (.inr (4, fs))) : f_Pl_clear [.ref t] h =
  (mm_pf 4 8 (.int 4) h t).bind fun h1 =>
  (mm_pf 4 9 (.int 2) h1 t).bind fun h2 =>
  (mm_pf 4 10 (.int 0) h2 t).bind fun h3 =>
  (mm_pf 4 11 (.int 0) h3 t).bind fun h4 =>
  (mm_pf 4 12 (.int 0) h4 t).bind fun h5 =>
  (mm_gr 4 6 h5 t).bind fun r6 =>
  (mm_pf 10 6 (.int 0) h5 r6).bind fun h7 =>
  (mm_gr 4 7 h7 t).bind fun r8 =>
  (mm_pf 10 6 (.int 0) h7 r8).bind fun h9 =>
  some (none, h9) := (mm_ga_is rfl).trans ((mm_gd_is hb).trans (e_Pl_clear_0 mm_fu t h))
set_option maxRecDepth 100000 in
theorem i_Pl_clear (l : Launch) : mm_Imp l yX4_clear cX4_clear 1 none 1 f_Pl_clear := mm_imp l (P := p_Pl_clear) mm_cls_ok mm_sys_ok (by decide) (mm_Pok_of (List.forall_mem_cons.mpr ⟨k_X4_34, (List.forall_mem_cons.mpr ⟨k_X4_38, (List.forall_mem_cons.mpr ⟨k_X4_41, (List.forall_mem_cons.mpr ⟨k_X4_45, (List.forall_mem_cons.mpr ⟨k_X4_48, (List.forall_mem_cons.mpr ⟨k_X4_51, (List.forall_mem_cons.mpr ⟨k_X4_54, (List.forall_mem_cons.mpr ⟨k_X4_57, (fun _ h => absurd h List.not_mem_nil)⟩)⟩)⟩)⟩)⟩)⟩)⟩)⟩) (fun _ h => absurd h List.not_mem_nil) (fun _ h => absurd h List.not_mem_nil) (fun _ h => absurd h List.not_mem_nil)) (by decide +kernel) rfl (cats := [1]) (fun as h r e => ⟨(mm_ga_inv e).1, (mm_gd_inv (mm_ga_inv e).2).1⟩) rfl (by decide)
theorem v_Pl_clear (l : Launch) {own : String} {i n0 : Nat} (hl : Cond.methodLink own i yX4_clear ∈ mm_tbl) (hn : 2 ≤ n0) : mm_cok l own n0 i (0, 0, 0, f_Pl_clear) := Or.inr (Or.inr ⟨rfl, yX4_clear, cX4_clear, 1, none, 1, 4, TX4, 13, i_Pl_clear l, hn, by decide, by decide +kernel, rfl, fun _ _ _ e => (mm_gd_inv (mm_ga_inv e).2).2, hl, q_734, q_735, q_170, q_736⟩)
def p_Pl_named : mm_P := ([(0, .iconst 0, 1, 0), (1, .istore_n 3, 1, 0), (2, .iload_n 3, 1, 0), (3, .aload_n 0, 1, 0), (4, .getfield 48, 3, 0), (7, .if_icmp .ge 22, 3, 0), (10, .aload_n 0, 1, 0), (11, .getfield 18, 3, 0), (14, .iload_n 3, 1, 0), (15, .laload, 1, 0), (16, .lload_n 1, 1, 0), (17, .lcmp, 1, 0), (18, .ifCond .ne 5, 3, 0), (21, .iload_n 3, 1, 0), (22, .ireturn, 1, 0), (23, .iinc 3 1, 3, 1), (26, .goto (-24), 3, 0), (29, .iconst (-1), 1, (-1)), (30, .ireturn, 1, 0)], [(18, 4, 2, 4), (48, 4, 10, 0)], [], [], [], [(0, [0, 1]), (2, [0, 1, 3])], [], 2)
def f_Pl_named : mm_F := fun args h => mm_ga [1, 2] args (mm_gd 4 args h (mm_run p_Pl_named (mm_fu + 1) 0 args [] h))
set_option maxRecDepth 100000 in
theorem e_Pl_named_0 (f : Nat) (t : Nat) (v1 : Int64) (h : mm_H) : mm_run p_Pl_named (f + 1) 0 [.ref t, .long v1] [] h =
  mm_run p_Pl_named f 2 [.ref t, .long v1, .int 0] [] h := rfl
theorem e_Pl_named (t : Nat) (v1 : Int64) (h : mm_H) {fs : List Value} (hb : h t = some (.inr (4, fs))) : f_Pl_named [.ref t, .long v1] h =
  mm_run p_Pl_named mm_fu 2 [.ref t, .long v1, .int 0] [] h := (mm_ga_is rfl).trans ((mm_gd_is hb).trans (e_Pl_named_0 mm_fu t v1 h))
set_option maxRecDepth 100000 in
theorem e_Pl_named_2 (f : Nat) (t : Nat) (v1 : Int64) (v3 : Int32) (h : mm_H) : mm_run p_Pl_named (f + 1) 2 [.ref t, .long v1, .int v3] [] h =
  (mm_gi 4 10 h t).bind fun x1 =>
  if v3 < x1 then
    (mm_gr 4 2 h t).bind fun r2 =>
    (mm_ll h r2 v3).bind fun l3 =>
    if (lg_cmp l3 v1) = 0 then
      some (some (.int v3), h)
    else
      mm_run p_Pl_named f 2 [.ref t, .long v1, .int (v3 + 1)] [] h
  else
    some (some (.int (-1)), h) := rfl
set_option maxRecDepth 100000 in
theorem i_Pl_named (l : Launch) : mm_Imp l yX4_named cX4_named 4 (some .int) 1 f_Pl_named := mm_imp l (P := p_Pl_named) mm_cls_ok mm_sys_ok (by decide) (mm_Pok_of (List.forall_mem_cons.mpr ⟨k_X4_18, (List.forall_mem_cons.mpr ⟨k_X4_48, (fun _ h => absurd h List.not_mem_nil)⟩)⟩) (fun _ h => absurd h List.not_mem_nil) (fun _ h => absurd h List.not_mem_nil) (fun _ h => absurd h List.not_mem_nil)) (by decide +kernel) rfl (cats := [1, 2]) (fun as h r e => ⟨(mm_ga_inv e).1, (mm_gd_inv (mm_ga_inv e).2).1⟩) rfl (by decide)
theorem v_Pl_named (l : Launch) {own : String} {i n0 : Nat} (hl : Cond.methodLink own i yX4_named ∈ mm_tbl) (hn : 2 ≤ n0) : mm_cok l own n0 i (0, 1, 1, f_Pl_named) := Or.inr (Or.inr ⟨rfl, yX4_named, cX4_named, 4, (some .int), 1, 4, TX4, 13, i_Pl_named l, hn, by decide, by decide +kernel, rfl, fun _ _ _ e => (mm_gd_inv (mm_ga_inv e).2).2, hl, q_783, q_784, q_170, q_785⟩)
def p_Pl_has : mm_P := ([(0, .iconst 0, 1, 0), (1, .istore_n 3, 1, 0), (2, .iload_n 3, 1, 0), (3, .aload_n 0, 1, 0), (4, .getfield 51, 3, 0), (7, .if_icmp .ge 25, 3, 0), (10, .aload_n 0, 1, 0), (11, .getfield 22, 3, 0), (14, .iload_n 3, 1, 0), (15, .iconst 3, 1, 3), (16, .imul, 1, 0), (17, .iload_n 1, 1, 0), (18, .iadd, 1, 0), (19, .iaload, 1, 0), (20, .iload_n 2, 1, 0), (21, .if_icmp .ne 5, 3, 0), (24, .iconst 1, 1, 1), (25, .ireturn, 1, 0), (26, .iinc 3 1, 3, 1), (29, .goto (-27), 3, 0), (32, .iconst 0, 1, 0), (33, .ireturn, 1, 0)], [(22, 4, 3, 4), (51, 4, 11, 0)], [], [], [], [(0, [0, 1, 2]), (2, [0, 1, 2, 3])], [], 1)
def f_Pl_has : mm_F := fun args h => mm_ga [1, 1, 1] args (mm_gd 4 args h (mm_run p_Pl_has (mm_fu + 1) 0 args [] h))
set_option maxRecDepth 100000 in
theorem e_Pl_has_0 (f : Nat) (t : Nat) (v1 : Int32) (v2 : Int32) (h : mm_H) : mm_run p_Pl_has (f + 1) 0 [.ref t, .int v1, .int v2] [] h =
  mm_run p_Pl_has f 2 [.ref t, .int v1, .int v2, .int 0] [] h := rfl
theorem e_Pl_has (t : Nat) (v1 : Int32) (v2 : Int32) (h : mm_H) {fs : List Value} (hb : h t = some (.inr (4, fs))) : f_Pl_has [.ref t, .int v1, .int v2] h =
  mm_run p_Pl_has mm_fu 2 [.ref t, .int v1, .int v2, .int 0] [] h := (mm_ga_is rfl).trans ((mm_gd_is hb).trans (e_Pl_has_0 mm_fu t v1 v2 h))
set_option maxRecDepth 100000 in
theorem e_Pl_has_2 (f : Nat) (t : Nat) (v1 : Int32) (v2 : Int32) (v3 : Int32) (h : mm_H) : mm_run p_Pl_has (f + 1) 2 [.ref t, .int v1, .int v2, .int v3] [] h =
  (mm_gi 4 11 h t).bind fun x1 =>
  if v3 < x1 then
    (mm_gr 4 3 h t).bind fun r2 =>
    (mm_li h r2 ((v3 * 3) + v1)).bind fun x3 =>
    if x3 = v2 then
      some (some (.int 1), h)
    else
      mm_run p_Pl_has f 2 [.ref t, .int v1, .int v2, .int (v3 + 1)] [] h
  else
    some (some (.int 0), h) := rfl
set_option maxRecDepth 100000 in
theorem i_Pl_has (l : Launch) : mm_Imp l yX4_has cX4_has 4 (some .boolean) 1 f_Pl_has := mm_imp l (P := p_Pl_has) mm_cls_ok mm_sys_ok (by decide) (mm_Pok_of (List.forall_mem_cons.mpr ⟨k_X4_22, (List.forall_mem_cons.mpr ⟨k_X4_51, (fun _ h => absurd h List.not_mem_nil)⟩)⟩) (fun _ h => absurd h List.not_mem_nil) (fun _ h => absurd h List.not_mem_nil) (fun _ h => absurd h List.not_mem_nil)) (by decide +kernel) rfl (cats := [1, 1, 1]) (fun as h r e => ⟨(mm_ga_inv e).1, (mm_gd_inv (mm_ga_inv e).2).1⟩) rfl (by decide)
theorem v_Pl_has (l : Launch) {own : String} {i n0 : Nat} (hl : Cond.methodLink own i yX4_has ∈ mm_tbl) (hn : 2 ≤ n0) : mm_cok l own n0 i (0, 2, 1, f_Pl_has) := Or.inr (Or.inr ⟨rfl, yX4_has, cX4_has, 4, (some .boolean), 1, 4, TX4, 13, i_Pl_has l, hn, by decide, by decide +kernel, rfl, fun _ _ _ e => (mm_gd_inv (mm_ga_inv e).2).2, hl, q_811, q_812, q_170, q_813⟩)
def p_Pl_onceHas : mm_P := ([(0, .iconst 0, 1, 0), (1, .istore_n 3, 1, 0), (2, .iload_n 3, 1, 0), (3, .aload_n 0, 1, 0), (4, .getfield 48, 3, 0), (7, .if_icmp .ge 36, 3, 0), (10, .aload_n 0, 1, 0), (11, .getfield 9, 3, 0), (14, .iload_n 3, 1, 0), (15, .iaload, 1, 0), (16, .iconst 2, 1, 2), (17, .if_icmp .ne 20, 3, 0), (20, .aload_n 0, 1, 0), (21, .getfield 15, 3, 0), (24, .iload_n 3, 1, 0), (25, .iaload, 1, 0), (26, .iload_n 1, 1, 0), (27, .if_icmp .ne 10, 3, 0), (30, .aload_n 0, 1, 0), (31, .iload_n 1, 1, 0), (32, .iload_n 2, 1, 0), (33, .invokevirtual 60, 3, 0), (36, .ireturn, 1, 0), (37, .iinc 3 1, 3, 1), (40, .goto (-38), 3, 0), (43, .iconst 0, 1, 0), (44, .ireturn, 1, 0)], [(9, 4, 0, 4), (15, 4, 1, 4), (48, 4, 10, 0)], [(60, 0, 2, 1, f_Pl_has)], [], [], [(0, [0, 1, 2]), (2, [0, 1, 2, 3])], [], 1)
def f_Pl_onceHas : mm_F := fun args h => mm_ga [1, 1, 1] args (mm_gd 4 args h (mm_run p_Pl_onceHas (mm_fu + 1) 0 args [] h))
set_option maxRecDepth 100000 in
theorem e_Pl_onceHas_0 (f : Nat) (t : Nat) (v1 : Int32) (v2 : Int32) (h : mm_H) : mm_run p_Pl_onceHas (f + 1) 0 [.ref t, .int v1, .int v2] [] h =
  mm_run p_Pl_onceHas f 2 [.ref t, .int v1, .int v2, .int 0] [] h := rfl
theorem e_Pl_onceHas (t : Nat) (v1 : Int32) (v2 : Int32) (h : mm_H) {fs : List Value} (hb : h t = some (.inr (4, fs))) : f_Pl_onceHas [.ref t, .int v1, .int v2] h =
  mm_run p_Pl_onceHas mm_fu 2 [.ref t, .int v1, .int v2, .int 0] [] h := (mm_ga_is rfl).trans ((mm_gd_is hb).trans (e_Pl_onceHas_0 mm_fu t v1 v2 h))
set_option maxRecDepth 100000 in
theorem e_Pl_onceHas_2 (f : Nat) (t : Nat) (v1 : Int32) (v2 : Int32) (v3 : Int32) (h : mm_H) : mm_run p_Pl_onceHas (f + 1) 2 [.ref t, .int v1, .int v2, .int v3] [] h =
  (mm_gi 4 10 h t).bind fun x1 =>
  if v3 < x1 then
    (mm_gr 4 0 h t).bind fun r2 =>
    (mm_li h r2 v3).bind fun x3 =>
    if x3 = 2 then
      (mm_gr 4 1 h t).bind fun r4 =>
      (mm_li h r4 v3).bind fun x5 =>
      if x5 = v1 then
        mm_ci (f_Pl_has [.ref t, .int v1, .int v2] h) fun x7 h6 =>
        if x7 = 0 ∨ x7 = 1 then some (some (.int x7), h6) else none
      else
        mm_run p_Pl_onceHas f 2 [.ref t, .int v1, .int v2, .int (v3 + 1)] [] h
    else
      mm_run p_Pl_onceHas f 2 [.ref t, .int v1, .int v2, .int (v3 + 1)] [] h
  else
    some (some (.int 0), h) := rfl
set_option maxRecDepth 100000 in
theorem i_Pl_onceHas (l : Launch) : mm_Imp l yX4_onceHas cX4_onceHas 4 (some .boolean) 2 f_Pl_onceHas := mm_imp l (P := p_Pl_onceHas) mm_cls_ok mm_sys_ok (by decide) (mm_Pok_of (List.forall_mem_cons.mpr ⟨k_X4_9, (List.forall_mem_cons.mpr ⟨k_X4_15, (List.forall_mem_cons.mpr ⟨k_X4_48, (fun _ h => absurd h List.not_mem_nil)⟩)⟩)⟩) (List.forall_mem_cons.mpr ⟨v_Pl_has l q_810 (by decide), (fun _ h => absurd h List.not_mem_nil)⟩) (fun _ h => absurd h List.not_mem_nil) (fun _ h => absurd h List.not_mem_nil)) (by decide +kernel) rfl (cats := [1, 1, 1]) (fun as h r e => ⟨(mm_ga_inv e).1, (mm_gd_inv (mm_ga_inv e).2).1⟩) rfl (by decide)
theorem v_Pl_onceHas (l : Launch) {own : String} {i n0 : Nat} (hl : Cond.methodLink own i yX4_onceHas ∈ mm_tbl) (hn : 3 ≤ n0) : mm_cok l own n0 i (0, 2, 1, f_Pl_onceHas) := Or.inr (Or.inr ⟨rfl, yX4_onceHas, cX4_onceHas, 4, (some .boolean), 2, 4, TX4, 13, i_Pl_onceHas l, hn, by decide, by decide +kernel, rfl, fun _ _ _ e => (mm_gd_inv (mm_ga_inv e).2).2, hl, q_807, q_808, q_170, q_809⟩)
def p_Pt_become : mm_P := ([(0, .aload_n 1, 1, 0), (1, .getfield 9, 3, 0), (4, .iconst 0, 1, 0), (5, .aload_n 0, 1, 0), (6, .getfield 9, 3, 0), (9, .iconst 0, 1, 0), (10, .bipush 12, 2, 12), (12, .invokestatic 25, 3, 0), (15, .aload_n 1, 1, 0), (16, .getfield 15, 3, 0), (19, .iconst 0, 1, 0), (20, .aload_n 0, 1, 0), (21, .getfield 15, 3, 0), (24, .iconst 0, 1, 0), (25, .bipush 12, 2, 12), (27, .invokestatic 25, 3, 0), (30, .aload_n 1, 1, 0), (31, .getfield 18, 3, 0), (34, .iconst 0, 1, 0), (35, .aload_n 0, 1, 0), (36, .getfield 18, 3, 0), (39, .iconst 0, 1, 0), (40, .bipush 12, 2, 12), (42, .invokestatic 25, 3, 0), (45, .aload_n 0, 1, 0), (46, .aload_n 1, 1, 0), (47, .getfield 21, 3, 0), (50, .putfield 21, 3, 0), (53, .return_, 1, 0)], [(9, 5, 0, 4), (15, 5, 1, 4), (18, 5, 2, 4), (21, 5, 3, 0)], [(25, 2, 5, 0, fun _ _ => none)], [], [], [(0, [0, 1])], [], 0)
def f_Pt_become : mm_F := fun args h => mm_ga [1, 1] args (mm_gd 5 args h (mm_run p_Pt_become (mm_fu + 1) 0 args [] h))
set_option maxRecDepth 100000 in
theorem e_Pt_become_0 (f : Nat) (t : Nat) (v1 : Nat) (h : mm_H) : mm_run p_Pt_become (f + 1) 0 [.ref t, .ref v1] [] h =
  (mm_gr 5 0 h v1).bind fun r1 =>
  (mm_gr 5 0 h t).bind fun r2 =>
  (mm_cp h r1 0 r2 0 12).bind fun h3 =>
  (mm_gr 5 1 h3 v1).bind fun r4 =>
  (mm_gr 5 1 h3 t).bind fun r5 =>
  (mm_cp h3 r4 0 r5 0 12).bind fun h6 =>
  (mm_gr 5 2 h6 v1).bind fun r7 =>
  (mm_gr 5 2 h6 t).bind fun r8 =>
  (mm_cp h6 r7 0 r8 0 12).bind fun h9 =>
  (mm_gi 5 3 h9 v1).bind fun x10 =>
  (mm_pf 5 3 (.int x10) h9 t).bind fun h11 =>
  some (none, h11) := rfl
theorem e_Pt_become (t : Nat) (v1 : Nat) (h : mm_H) {fs : List Value} (hb : h t = some (.inr (5, fs))) : f_Pt_become [.ref t, .ref v1] h =
  (mm_gr 5 0 h v1).bind fun r1 =>
  (mm_gr 5 0 h t).bind fun r2 =>
  (mm_cp h r1 0 r2 0 12).bind fun h3 =>
  (mm_gr 5 1 h3 v1).bind fun r4 =>
  (mm_gr 5 1 h3 t).bind fun r5 =>
  (mm_cp h3 r4 0 r5 0 12).bind fun h6 =>
  (mm_gr 5 2 h6 v1).bind fun r7 =>
  (mm_gr 5 2 h6 t).bind fun r8 =>
  (mm_cp h6 r7 0 r8 0 12).bind fun h9 =>
  (mm_gi 5 3 h9 v1).bind fun x10 =>
  (mm_pf 5 3 (.int x10) h9 t).bind fun h11 =>
  some (none, h11) := (mm_ga_is rfl).trans ((mm_gd_is hb).trans (e_Pt_become_0 mm_fu t v1 h))
set_option maxRecDepth 100000 in
theorem i_Pt_become (l : Launch) : mm_Imp l yX5_become cX5_become 2 none 1 f_Pt_become := mm_imp l (P := p_Pt_become) mm_cls_ok mm_sys_ok (by decide) (mm_Pok_of (List.forall_mem_cons.mpr ⟨k_X5_9, (List.forall_mem_cons.mpr ⟨k_X5_15, (List.forall_mem_cons.mpr ⟨k_X5_18, (List.forall_mem_cons.mpr ⟨k_X5_21, (fun _ h => absurd h List.not_mem_nil)⟩)⟩)⟩)⟩) (List.forall_mem_cons.mpr ⟨Or.inl ⟨by decide, Or.inl ⟨rfl, q_1024⟩⟩, (fun _ h => absurd h List.not_mem_nil)⟩) (fun _ h => absurd h List.not_mem_nil) (fun _ h => absurd h List.not_mem_nil)) (by decide +kernel) rfl (cats := [1, 1]) (fun as h r e => ⟨(mm_ga_inv e).1, (mm_gd_inv (mm_ga_inv e).2).1⟩) rfl (by decide)
theorem v_Pt_become (l : Launch) {own : String} {i n0 : Nat} (hl : Cond.methodLink own i yX5_become ∈ mm_tbl) (hn : 2 ≤ n0) : mm_cok l own n0 i (0, 1, 0, f_Pt_become) := Or.inr (Or.inr ⟨rfl, yX5_become, cX5_become, 2, none, 1, 5, TX5, 4, i_Pt_become l, hn, by decide, by decide +kernel, rfl, fun _ _ _ e => (mm_gd_inv (mm_ga_inv e).2).2, hl, q_1021, q_1022, q_176, q_1023⟩)
def p_Pt_add : mm_P := ([(0, .aload_n 0, 1, 0), (1, .getfield 21, 3, 0), (4, .istore_n 3, 1, 0), (5, .iload_n 3, 1, 0), (6, .bipush 12, 2, 12), (8, .if_icmp .lt 5, 3, 0), (11, .iconst (-1), 1, (-1)), (12, .ireturn, 1, 0), (13, .aload_n 0, 1, 0), (14, .dup, 1, 0), (15, .getfield 21, 3, 0), (18, .iconst 1, 1, 1), (19, .iadd, 1, 0), (20, .putfield 21, 3, 0), (23, .aload_n 0, 1, 0), (24, .getfield 9, 3, 0), (27, .iload_n 3, 1, 0), (28, .iload_n 1, 1, 0), (29, .iastore, 1, 0), (30, .aload_n 0, 1, 0), (31, .getfield 15, 3, 0), (34, .iload_n 3, 1, 0), (35, .iload_n 2, 1, 0), (36, .iastore, 1, 0), (37, .aload_n 0, 1, 0), (38, .getfield 18, 3, 0), (41, .iload_n 3, 1, 0), (42, .iconst (-1), 1, (-1)), (43, .iastore, 1, 0), (44, .iload_n 3, 1, 0), (45, .ireturn, 1, 0)], [(9, 5, 0, 4), (15, 5, 1, 4), (18, 5, 2, 4), (21, 5, 3, 0)], [], [], [], [(0, [0, 1, 2])], [], 2)
def f_Pt_add : mm_F := fun args h => mm_ga [1, 1, 1] args (mm_gd 5 args h (mm_run p_Pt_add (mm_fu + 1) 0 args [] h))
set_option maxRecDepth 100000 in
theorem e_Pt_add_0 (f : Nat) (t : Nat) (v1 : Int32) (v2 : Int32) (h : mm_H) : mm_run p_Pt_add (f + 1) 0 [.ref t, .int v1, .int v2] [] h =
  (mm_gi 5 3 h t).bind fun x1 =>
  if x1 < 12 then
    (mm_gi 5 3 h t).bind fun x2 =>
    (mm_pf 5 3 (.int (x2 + 1)) h t).bind fun h3 =>
    (mm_gr 5 0 h3 t).bind fun r4 =>
    (mm_si h3 r4 x1 v1).bind fun h5 =>
    (mm_gr 5 1 h5 t).bind fun r6 =>
    (mm_si h5 r6 x1 v2).bind fun h7 =>
    (mm_gr 5 2 h7 t).bind fun r8 =>
    (mm_si h7 r8 x1 (-1)).bind fun h9 =>
    some (some (.int x1), h9)
  else
    some (some (.int (-1)), h) := rfl
theorem e_Pt_add (t : Nat) (v1 : Int32) (v2 : Int32) (h : mm_H) {fs : List Value} (hb : h t = some (.inr (5, fs))) : f_Pt_add [.ref t, .int v1, .int v2] h =
  (mm_gi 5 3 h t).bind fun x1 =>
  if x1 < 12 then
    (mm_gi 5 3 h t).bind fun x2 =>
    (mm_pf 5 3 (.int (x2 + 1)) h t).bind fun h3 =>
    (mm_gr 5 0 h3 t).bind fun r4 =>
    (mm_si h3 r4 x1 v1).bind fun h5 =>
    (mm_gr 5 1 h5 t).bind fun r6 =>
    (mm_si h5 r6 x1 v2).bind fun h7 =>
    (mm_gr 5 2 h7 t).bind fun r8 =>
    (mm_si h7 r8 x1 (-1)).bind fun h9 =>
    some (some (.int x1), h9)
  else
    some (some (.int (-1)), h) := (mm_ga_is rfl).trans ((mm_gd_is hb).trans (e_Pt_add_0 mm_fu t v1 v2 h))
set_option maxRecDepth 100000 in
theorem i_Pt_add (l : Launch) : mm_Imp l yX5_add cX5_add 4 (some .int) 1 f_Pt_add := mm_imp l (P := p_Pt_add) mm_cls_ok mm_sys_ok (by decide) (mm_Pok_of (List.forall_mem_cons.mpr ⟨k_X5_9, (List.forall_mem_cons.mpr ⟨k_X5_15, (List.forall_mem_cons.mpr ⟨k_X5_18, (List.forall_mem_cons.mpr ⟨k_X5_21, (fun _ h => absurd h List.not_mem_nil)⟩)⟩)⟩)⟩) (fun _ h => absurd h List.not_mem_nil) (fun _ h => absurd h List.not_mem_nil) (fun _ h => absurd h List.not_mem_nil)) (by decide +kernel) rfl (cats := [1, 1, 1]) (fun as h r e => ⟨(mm_ga_inv e).1, (mm_gd_inv (mm_ga_inv e).2).1⟩) rfl (by decide)
theorem v_Pt_add (l : Launch) {own : String} {i n0 : Nat} (hl : Cond.methodLink own i yX5_add ∈ mm_tbl) (hn : 2 ≤ n0) : mm_cok l own n0 i (0, 2, 1, f_Pt_add) := Or.inr (Or.inr ⟨rfl, yX5_add, cX5_add, 4, (some .int), 1, 5, TX5, 4, i_Pt_add l, hn, by decide, by decide +kernel, rfl, fun _ _ _ e => (mm_gd_inv (mm_ga_inv e).2).2, hl, q_929, q_930, q_176, q_931⟩)
def p_Pt_discard : mm_P := ([(0, .aload_n 0, 1, 0), (1, .iload_n 1, 1, 0), (2, .invokevirtual 31, 3, 0), (5, .ifCond .eq 14, 3, 0), (8, .aload_n 0, 1, 0), (9, .getfield 15, 3, 0), (12, .iload_n 1, 1, 0), (13, .iaload, 1, 0), (14, .bipush (-2), 2, (-2)), (16, .if_icmp .ne 5, 3, 0), (19, .iconst 0, 1, 0), (20, .ireturn, 1, 0), (21, .aload_n 0, 1, 0), (22, .getfield 15, 3, 0), (25, .iload_n 1, 1, 0), (26, .bipush (-2), 2, (-2)), (28, .iastore, 1, 0), (29, .aload_n 0, 1, 0), (30, .getfield 18, 3, 0), (33, .iload_n 1, 1, 0), (34, .iconst (-1), 1, (-1)), (35, .iastore, 1, 0), (36, .iconst 1, 1, 1), (37, .ireturn, 1, 0)], [(15, 5, 1, 4), (18, 5, 2, 4)], [(31, 0, 1, 1, f_Pt_hasCome)], [], [], [(0, [0, 1])], [], 1)
def f_Pt_discard : mm_F := fun args h => mm_ga [1, 1] args (mm_gd 5 args h (mm_run p_Pt_discard (mm_fu + 1) 0 args [] h))
set_option maxRecDepth 100000 in
theorem e_Pt_discard_0 (f : Nat) (t : Nat) (v1 : Int32) (h : mm_H) : mm_run p_Pt_discard (f + 1) 0 [.ref t, .int v1] [] h =
  mm_ci (f_Pt_hasCome [.ref t, .int v1] h) fun x2 h1 =>
  if x2 = 0 then
    some (some (.int 0), h1)
  else
    (mm_gr 5 1 h1 t).bind fun r3 =>
    (mm_li h1 r3 v1).bind fun x4 =>
    if x4 = (-2) then
      some (some (.int 0), h1)
    else
      (mm_gr 5 1 h1 t).bind fun r5 =>
      (mm_si h1 r5 v1 (-2)).bind fun h6 =>
      (mm_gr 5 2 h6 t).bind fun r7 =>
      (mm_si h6 r7 v1 (-1)).bind fun h8 =>
      some (some (.int 1), h8) := rfl
theorem e_Pt_discard (t : Nat) (v1 : Int32) (h : mm_H) {fs : List Value} (hb : h t = some (.inr (5, fs))) : f_Pt_discard [.ref t, .int v1] h =
  mm_ci (f_Pt_hasCome [.ref t, .int v1] h) fun x2 h1 =>
  if x2 = 0 then
    some (some (.int 0), h1)
  else
    (mm_gr 5 1 h1 t).bind fun r3 =>
    (mm_li h1 r3 v1).bind fun x4 =>
    if x4 = (-2) then
      some (some (.int 0), h1)
    else
      (mm_gr 5 1 h1 t).bind fun r5 =>
      (mm_si h1 r5 v1 (-2)).bind fun h6 =>
      (mm_gr 5 2 h6 t).bind fun r7 =>
      (mm_si h6 r7 v1 (-1)).bind fun h8 =>
      some (some (.int 1), h8) := (mm_ga_is rfl).trans ((mm_gd_is hb).trans (e_Pt_discard_0 mm_fu t v1 h))
set_option maxRecDepth 100000 in
theorem i_Pt_discard (l : Launch) : mm_Imp l yX5_discard cX5_discard 2 (some .boolean) 2 f_Pt_discard := mm_imp l (P := p_Pt_discard) mm_cls_ok mm_sys_ok (by decide) (mm_Pok_of (List.forall_mem_cons.mpr ⟨k_X5_15, (List.forall_mem_cons.mpr ⟨k_X5_18, (fun _ h => absurd h List.not_mem_nil)⟩)⟩) (List.forall_mem_cons.mpr ⟨v_Pt_hasCome l q_1133 (by decide), (fun _ h => absurd h List.not_mem_nil)⟩) (fun _ h => absurd h List.not_mem_nil) (fun _ h => absurd h List.not_mem_nil)) (by decide +kernel) rfl (cats := [1, 1]) (fun as h r e => ⟨(mm_ga_inv e).1, (mm_gd_inv (mm_ga_inv e).2).1⟩) rfl (by decide)
theorem v_Pt_discard (l : Launch) {own : String} {i n0 : Nat} (hl : Cond.methodLink own i yX5_discard ∈ mm_tbl) (hn : 3 ≤ n0) : mm_cok l own n0 i (0, 1, 1, f_Pt_discard) := Or.inr (Or.inr ⟨rfl, yX5_discard, cX5_discard, 2, (some .boolean), 2, 5, TX5, 4, i_Pt_discard l, hn, by decide, by decide +kernel, rfl, fun _ _ _ e => (mm_gd_inv (mm_ga_inv e).2).2, hl, q_1166, q_1167, q_176, q_1168⟩)
def p_Pt_firmOnes : mm_P := ([(0, .iconst 0, 1, 0), (1, .istore_n 1, 1, 0), (2, .iconst 0, 1, 0), (3, .istore_n 2, 1, 0), (4, .iload_n 2, 1, 0), (5, .aload_n 0, 1, 0), (6, .getfield 21, 3, 0), (9, .if_icmp .ge 25, 3, 0), (12, .iload_n 1, 1, 0), (13, .aload_n 0, 1, 0), (14, .iload_n 2, 1, 0), (15, .invokevirtual 35, 3, 0), (18, .ifCond .eq 7, 3, 0), (21, .iconst 1, 1, 1), (22, .goto 4, 3, 0), (25, .iconst 0, 1, 0), (26, .iadd, 1, 0), (27, .istore_n 1, 1, 0), (28, .iinc 2 1, 3, 1), (31, .goto (-27), 3, 0), (34, .iload_n 1, 1, 0), (35, .ireturn, 1, 0)], [(21, 5, 3, 0)], [(35, 0, 1, 1, f_Pt_isFirm)], [], [], [(0, [0]), (4, [0, 1, 2])], [], 2)
def f_Pt_firmOnes : mm_F := fun args h => mm_ga [1] args (mm_gd 5 args h (mm_run p_Pt_firmOnes (mm_fu + 1) 0 args [] h))
set_option maxRecDepth 100000 in
theorem e_Pt_firmOnes_0 (f : Nat) (t : Nat) (h : mm_H) : mm_run p_Pt_firmOnes (f + 1) 0 [.ref t] [] h =
  mm_run p_Pt_firmOnes f 4 [.ref t, .int 0, .int 0] [] h := rfl
theorem e_Pt_firmOnes (t : Nat) (h : mm_H) {fs : List Value} (hb : h t = some (.inr (5, fs))) : f_Pt_firmOnes [.ref t] h =
  mm_run p_Pt_firmOnes mm_fu 4 [.ref t, .int 0, .int 0] [] h := (mm_ga_is rfl).trans ((mm_gd_is hb).trans (e_Pt_firmOnes_0 mm_fu t h))
set_option maxRecDepth 100000 in
theorem e_Pt_firmOnes_4 (f : Nat) (t : Nat) (v1 : Int32) (v2 : Int32) (h : mm_H) : mm_run p_Pt_firmOnes (f + 1) 4 [.ref t, .int v1, .int v2] [] h =
  (mm_gi 5 3 h t).bind fun x1 =>
  if v2 < x1 then
    mm_ci (f_Pt_isFirm [.ref t, .int v2] h) fun x3 h2 =>
    if x3 = 0 then
      mm_run p_Pt_firmOnes f 4 [.ref t, .int (v1 + 0), .int (v2 + 1)] [] h2
    else
      mm_run p_Pt_firmOnes f 4 [.ref t, .int (v1 + 1), .int (v2 + 1)] [] h2
  else
    some (some (.int v1), h) := rfl
set_option maxRecDepth 100000 in
theorem i_Pt_firmOnes (l : Launch) : mm_Imp l yX5_firmOnes cX5_firmOnes 3 (some .int) 3 f_Pt_firmOnes := mm_imp l (P := p_Pt_firmOnes) mm_cls_ok mm_sys_ok (by decide) (mm_Pok_of (List.forall_mem_cons.mpr ⟨k_X5_21, (fun _ h => absurd h List.not_mem_nil)⟩) (List.forall_mem_cons.mpr ⟨v_Pt_isFirm l q_1570 (by decide), (fun _ h => absurd h List.not_mem_nil)⟩) (fun _ h => absurd h List.not_mem_nil) (fun _ h => absurd h List.not_mem_nil)) (by decide +kernel) rfl (cats := [1]) (fun as h r e => ⟨(mm_ga_inv e).1, (mm_gd_inv (mm_ga_inv e).2).1⟩) rfl (by decide)
theorem v_Pt_firmOnes (l : Launch) {own : String} {i n0 : Nat} (hl : Cond.methodLink own i yX5_firmOnes ∈ mm_tbl) (hn : 4 ≤ n0) : mm_cok l own n0 i (0, 0, 1, f_Pt_firmOnes) := Or.inr (Or.inr ⟨rfl, yX5_firmOnes, cX5_firmOnes, 3, (some .int), 3, 5, TX5, 4, i_Pt_firmOnes l, hn, by decide, by decide +kernel, rfl, fun _ _ _ e => (mm_gd_inv (mm_ga_inv e).2).2, hl, q_1567, q_1568, q_176, q_1569⟩)
def p_Tp_readSigns : mm_P := ([(0, .aload_n 0, 1, 0), (1, .getfield 29, 3, 0), (4, .aload_n 0, 1, 0), (5, .getfield 26, 3, 0), (8, .isub, 1, 0), (9, .istore_n 1, 1, 0), (10, .aload_n 0, 1, 0), (11, .iconst (-1), 1, (-1)), (12, .putfield 35, 3, 0), (15, .aload_n 0, 1, 0), (16, .lconst 0, 1, 0), (17, .putfield 38, 3, 0), (20, .aload_n 0, 1, 0), (21, .getfield 32, 3, 0), (24, .iconst 1, 1, 1), (25, .if_icmp .ne 103, 3, 0), (28, .iload_n 1, 1, 0), (29, .bipush 8, 2, 8), (31, .if_icmp .gt 97, 3, 0), (34, .aload_n 0, 1, 0), (35, .getfield 26, 3, 0), (38, .istore_n 2, 1, 0), (39, .iload_n 2, 1, 0), (40, .aload_n 0, 1, 0), (41, .getfield 29, 3, 0), (44, .if_icmp .ge 41, 3, 0), (47, .iload_n 2, 1, 0), (48, .sipush 1000, 3, 1000), (51, .if_icmp .ge 34, 3, 0), (54, .aload_n 0, 1, 0), (55, .aload_n 0, 1, 0), (56, .getfield 38, 3, 0), (59, .ldc2_w 53, 3, 0), (62, .lmul, 1, 0), (63, .aload_n 0, 1, 0), (64, .getfield 9, 3, 0), (67, .iload_n 2, 1, 0), (68, .baload, 1, 0), (69, .bipush 97, 2, 97), (71, .isub, 1, 0), (72, .iconst 1, 1, 1), (73, .iadd, 1, 0), (74, .i2l, 1, 0), (75, .ladd, 1, 0), (76, .putfield 38, 3, 0), (79, .iinc 2 1, 3, 1), (82, .goto (-43), 3, 0), (85, .iconst 0, 1, 0), (86, .istore_n 2, 1, 0), (87, .iload_n 2, 1, 0), (88, .bipush 38, 2, 38), (90, .if_icmp .ge 35, 3, 0), (93, .aload_n 0, 1, 0), (94, .aload_n 0, 1, 0), (95, .getfield 18, 3, 0), (98, .iload_n 2, 1, 0), (99, .laload, 1, 0), (100, .aload_n 0, 1, 0), (101, .getfield 38, 3, 0), (104, .lcmp, 1, 0), (105, .ifCond .ne 7, 3, 0), (108, .iload_n 2, 1, 0), (109, .goto 7, 3, 0), (112, .aload_n 0, 1, 0), (113, .getfield 35, 3, 0), (116, .putfield 35, 3, 0), (119, .iinc 2 1, 3, 1), (122, .goto (-35), 3, 0), (125, .goto 92, 3, 0), (128, .aload_n 0, 1, 0), (129, .getfield 32, 3, 0), (132, .iconst 2, 1, 2), (133, .if_icmp .ne 63, 3, 0), (136, .iload_n 1, 1, 0), (137, .iconst 4, 1, 4), (138, .if_icmp .gt 58, 3, 0), (141, .aload_n 0, 1, 0), (142, .iconst 0, 1, 0), (143, .putfield 35, 3, 0), (146, .aload_n 0, 1, 0), (147, .getfield 26, 3, 0), (150, .istore_n 2, 1, 0), (151, .iload_n 2, 1, 0), (152, .aload_n 0, 1, 0), (153, .getfield 29, 3, 0), (156, .if_icmp .ge 37, 3, 0), (159, .iload_n 2, 1, 0), (160, .sipush 1000, 3, 1000), (163, .if_icmp .ge 30, 3, 0), (166, .aload_n 0, 1, 0), (167, .aload_n 0, 1, 0), (168, .getfield 35, 3, 0), (171, .bipush 10, 2, 10), (173, .imul, 1, 0), (174, .aload_n 0, 1, 0), (175, .getfield 9, 3, 0), (178, .iload_n 2, 1, 0), (179, .baload, 1, 0), (180, .bipush 48, 2, 48), (182, .isub, 1, 0), (183, .iadd, 1, 0), (184, .putfield 35, 3, 0), (187, .iinc 2 1, 3, 1), (190, .goto (-39), 3, 0), (193, .goto 24, 3, 0), (196, .aload_n 0, 1, 0), (197, .getfield 32, 3, 0), (200, .iconst 1, 1, 1), (201, .if_icmp .eq 11, 3, 0), (204, .aload_n 0, 1, 0), (205, .getfield 32, 3, 0), (208, .iconst 2, 1, 2), (209, .if_icmp .ne 8, 3, 0), (212, .aload_n 0, 1, 0), (213, .iconst 4, 1, 4), (214, .putfield 32, 3, 0), (217, .return_, 1, 0)], [(9, 9, 0, 4), (18, 9, 2, 4), (26, 9, 4, 0), (29, 9, 5, 0), (32, 9, 6, 0), (35, 9, 7, 0), (38, 9, 8, 3)], [], [], [(53, 32)], [(0, [0]), (39, [0, 2]), (87, [0, 2]), (128, [0, 1]), (151, [0, 2])], [], 0)
def f_Tp_readSigns : mm_F := fun args h => mm_ga [1] args (mm_gd 9 args h (mm_run p_Tp_readSigns (mm_fu + 1) 0 args [] h))
set_option maxRecDepth 100000 in
theorem e_Tp_readSigns_0 (f : Nat) (t : Nat) (h : mm_H) : mm_run p_Tp_readSigns (f + 1) 0 [.ref t] [] h =
  (mm_gi 9 5 h t).bind fun x1 =>
  (mm_gi 9 4 h t).bind fun x2 =>
  (mm_pf 9 7 (.int (-1)) h t).bind fun h3 =>
  (mm_pf 9 8 (.long (Int64.ofNat 0)) h3 t).bind fun h4 =>
  (mm_gi 9 6 h4 t).bind fun x5 =>
  if x5 = 1 then
    if (8 : Int32) < (x1 - x2) then
      mm_run p_Tp_readSigns f 128 [.ref t, .int (x1 - x2)] [] h4
    else
      (mm_gi 9 4 h4 t).bind fun x6 =>
      mm_run p_Tp_readSigns f 39 [.ref t, .int x6] [] h4
  else
    mm_run p_Tp_readSigns f 128 [.ref t, .int (x1 - x2)] [] h4 := rfl
theorem e_Tp_readSigns (t : Nat) (h : mm_H) {fs : List Value} (hb : h t = some (.inr (9, fs))) : f_Tp_readSigns [.ref t] h =
  (mm_gi 9 5 h t).bind fun x1 =>
  (mm_gi 9 4 h t).bind fun x2 =>
  (mm_pf 9 7 (.int (-1)) h t).bind fun h3 =>
  (mm_pf 9 8 (.long (Int64.ofNat 0)) h3 t).bind fun h4 =>
  (mm_gi 9 6 h4 t).bind fun x5 =>
  if x5 = 1 then
    if (8 : Int32) < (x1 - x2) then
      mm_run p_Tp_readSigns mm_fu 128 [.ref t, .int (x1 - x2)] [] h4
    else
      (mm_gi 9 4 h4 t).bind fun x6 =>
      mm_run p_Tp_readSigns mm_fu 39 [.ref t, .int x6] [] h4
  else
    mm_run p_Tp_readSigns mm_fu 128 [.ref t, .int (x1 - x2)] [] h4 := (mm_ga_is rfl).trans ((mm_gd_is hb).trans (e_Tp_readSigns_0 mm_fu t h))
set_option maxRecDepth 100000 in
theorem e_Tp_readSigns_39 (f : Nat) (t : Nat) (v2 : Int32) (h : mm_H) : mm_run p_Tp_readSigns (f + 1) 39 [.ref t, .int v2] [] h =
  (mm_gi 9 5 h t).bind fun x1 =>
  if v2 < x1 then
    if v2 < 1000 then
      (mm_gl 9 8 h t).bind fun l2 =>
      (mm_gr 9 0 h t).bind fun r3 =>
      (mm_lb h r3 v2).bind fun x4 =>
      (mm_pf 9 8 (.long ((l2 * (32 : Int64)) + ((x4 - 97) + 1).toInt64)) h t).bind fun h5 =>
      mm_run p_Tp_readSigns f 39 [.ref t, .int (v2 + 1)] [] h5
    else
      mm_run p_Tp_readSigns f 87 [.ref t, .int 0] [] h
  else
    mm_run p_Tp_readSigns f 87 [.ref t, .int 0] [] h := rfl
set_option maxRecDepth 100000 in
theorem e_Tp_readSigns_128 (f : Nat) (t : Nat) (v1 : Int32) (h : mm_H) : mm_run p_Tp_readSigns (f + 1) 128 [.ref t, .int v1] [] h =
  (mm_gi 9 6 h t).bind fun x1 =>
  if x1 = 2 then
    if (4 : Int32) < v1 then
      (mm_gi 9 6 h t).bind fun x2 =>
      if x2 = 1 then
        (mm_pf 9 6 (.int 4) h t).bind fun h3 =>
        some (none, h3)
      else
        (mm_gi 9 6 h t).bind fun x4 =>
        if x4 = 2 then
          (mm_pf 9 6 (.int 4) h t).bind fun h5 =>
          some (none, h5)
        else
          some (none, h)
    else
      (mm_pf 9 7 (.int 0) h t).bind fun h6 =>
      (mm_gi 9 4 h6 t).bind fun x7 =>
      mm_run p_Tp_readSigns f 151 [.ref t, .int x7] [] h6
  else
    (mm_gi 9 6 h t).bind fun x8 =>
    if x8 = 1 then
      (mm_pf 9 6 (.int 4) h t).bind fun h9 =>
      some (none, h9)
    else
      (mm_gi 9 6 h t).bind fun x10 =>
      if x10 = 2 then
        (mm_pf 9 6 (.int 4) h t).bind fun h11 =>
        some (none, h11)
      else
        some (none, h) := rfl
set_option maxRecDepth 100000 in
theorem e_Tp_readSigns_87 (f : Nat) (t : Nat) (v2 : Int32) (h : mm_H) : mm_run p_Tp_readSigns (f + 1) 87 [.ref t, .int v2] [] h =
  if v2 < 38 then
    (mm_gr 9 2 h t).bind fun r1 =>
    (mm_ll h r1 v2).bind fun l2 =>
    (mm_gl 9 8 h t).bind fun l3 =>
    if (lg_cmp l2 l3) = 0 then
      (mm_pf 9 7 (.int v2) h t).bind fun h4 =>
      mm_run p_Tp_readSigns f 87 [.ref t, .int (v2 + 1)] [] h4
    else
      (mm_gi 9 7 h t).bind fun x5 =>
      (mm_pf 9 7 (.int x5) h t).bind fun h6 =>
      mm_run p_Tp_readSigns f 87 [.ref t, .int (v2 + 1)] [] h6
  else
    some (none, h) := rfl
set_option maxRecDepth 100000 in
theorem e_Tp_readSigns_151 (f : Nat) (t : Nat) (v2 : Int32) (h : mm_H) : mm_run p_Tp_readSigns (f + 1) 151 [.ref t, .int v2] [] h =
  (mm_gi 9 5 h t).bind fun x1 =>
  if v2 < x1 then
    if v2 < 1000 then
      (mm_gi 9 7 h t).bind fun x2 =>
      (mm_gr 9 0 h t).bind fun r3 =>
      (mm_lb h r3 v2).bind fun x4 =>
      (mm_pf 9 7 (.int ((x2 * 10) + (x4 - 48))) h t).bind fun h5 =>
      mm_run p_Tp_readSigns f 151 [.ref t, .int (v2 + 1)] [] h5
    else
      some (none, h)
  else
    some (none, h) := rfl
set_option maxRecDepth 100000 in
theorem i_Tp_readSigns (l : Launch) : mm_Imp l yX9_readSigns cX9_readSigns 3 none 1 f_Tp_readSigns := mm_imp l (P := p_Tp_readSigns) mm_cls_ok mm_sys_ok (by decide) (mm_Pok_of (List.forall_mem_cons.mpr ⟨k_X9_9, (List.forall_mem_cons.mpr ⟨k_X9_18, (List.forall_mem_cons.mpr ⟨k_X9_26, (List.forall_mem_cons.mpr ⟨k_X9_29, (List.forall_mem_cons.mpr ⟨k_X9_32, (List.forall_mem_cons.mpr ⟨k_X9_35, (List.forall_mem_cons.mpr ⟨k_X9_38, (fun _ h => absurd h List.not_mem_nil)⟩)⟩)⟩)⟩)⟩)⟩)⟩) (fun _ h => absurd h List.not_mem_nil) (fun _ h => absurd h List.not_mem_nil) (List.forall_mem_cons.mpr ⟨q_250, (fun _ h => absurd h List.not_mem_nil)⟩)) (by decide +kernel) rfl (cats := [1]) (fun as h r e => ⟨(mm_ga_inv e).1, (mm_gd_inv (mm_ga_inv e).2).1⟩) rfl (by decide)
theorem v_Tp_readSigns (l : Launch) {own : String} {i n0 : Nat} (hl : Cond.methodLink own i yX9_readSigns ∈ mm_tbl) (hn : 2 ≤ n0) : mm_cok l own n0 i (0, 0, 0, f_Tp_readSigns) := Or.inr (Or.inr ⟨rfl, yX9_readSigns, cX9_readSigns, 3, none, 1, 9, TX9, 9, i_Tp_readSigns l, hn, by decide, by decide +kernel, rfl, fun _ _ _ e => (mm_gd_inv (mm_ga_inv e).2).2, hl, q_747, q_0, q_164, q_748⟩)
def p_Tp_readOn : mm_P := ([(0, .aload_n 0, 1, 0), (1, .aload_n 0, 1, 0), (2, .getfield 29, 3, 0), (5, .putfield 26, 3, 0), (8, .aload_n 0, 1, 0), (9, .getfield 26, 3, 0), (12, .aload_n 0, 1, 0), (13, .getfield 22, 3, 0), (16, .if_icmp .ge 39, 3, 0), (19, .aload_n 0, 1, 0), (20, .getfield 26, 3, 0), (23, .sipush 1000, 3, 1000), (26, .if_icmp .ge 29, 3, 0), (29, .aload_n 0, 1, 0), (30, .getfield 15, 3, 0), (33, .aload_n 0, 1, 0), (34, .getfield 26, 3, 0), (37, .baload, 1, 0), (38, .iconst 5, 1, 5), (39, .if_icmp .ne 16, 3, 0), (42, .aload_n 0, 1, 0), (43, .dup, 1, 0), (44, .getfield 26, 3, 0), (47, .iconst 1, 1, 1), (48, .iadd, 1, 0), (49, .putfield 26, 3, 0), (52, .goto (-44), 3, 0), (55, .aload_n 0, 1, 0), (56, .aload_n 0, 1, 0), (57, .getfield 26, 3, 0), (60, .putfield 29, 3, 0), (63, .aload_n 0, 1, 0), (64, .iconst 0, 1, 0), (65, .putfield 32, 3, 0), (68, .aload_n 0, 1, 0), (69, .getfield 26, 3, 0), (72, .aload_n 0, 1, 0), (73, .getfield 22, 3, 0), (76, .if_icmp .ge 36, 3, 0), (79, .aload_n 0, 1, 0), (80, .getfield 26, 3, 0), (83, .sipush 1000, 3, 1000), (86, .if_icmp .ge 26, 3, 0), (89, .aload_n 0, 1, 0), (90, .aload_n 0, 1, 0), (91, .getfield 15, 3, 0), (94, .aload_n 0, 1, 0), (95, .getfield 26, 3, 0), (98, .baload, 1, 0), (99, .putfield 32, 3, 0), (102, .aload_n 0, 1, 0), (103, .dup, 1, 0), (104, .getfield 29, 3, 0), (107, .iconst 1, 1, 1), (108, .iadd, 1, 0), (109, .putfield 29, 3, 0), (112, .aload_n 0, 1, 0), (113, .getfield 32, 3, 0), (116, .iconst 1, 1, 1), (117, .if_icmp .eq 11, 3, 0), (120, .aload_n 0, 1, 0), (121, .getfield 32, 3, 0), (124, .iconst 2, 1, 2), (125, .if_icmp .ne 7, 3, 0), (128, .iconst 1, 1, 1), (129, .goto 4, 3, 0), (132, .iconst 0, 1, 0), (133, .istore_n 1, 1, 0), (134, .iload_n 1, 1, 0), (135, .ifCond .eq 53, 3, 0), (138, .aload_n 0, 1, 0), (139, .getfield 29, 3, 0), (142, .aload_n 0, 1, 0), (143, .getfield 22, 3, 0), (146, .if_icmp .ge 42, 3, 0), (149, .aload_n 0, 1, 0), (150, .getfield 29, 3, 0), (153, .sipush 1000, 3, 1000), (156, .if_icmp .ge 32, 3, 0), (159, .aload_n 0, 1, 0), (160, .getfield 15, 3, 0), (163, .aload_n 0, 1, 0), (164, .getfield 29, 3, 0), (167, .baload, 1, 0), (168, .aload_n 0, 1, 0), (169, .getfield 32, 3, 0), (172, .if_icmp .ne 16, 3, 0), (175, .aload_n 0, 1, 0), (176, .dup, 1, 0), (177, .getfield 29, 3, 0), (180, .iconst 1, 1, 1), (181, .iadd, 1, 0), (182, .putfield 29, 3, 0), (185, .goto (-51), 3, 0), (188, .aload_n 0, 1, 0), (189, .invokevirtual 64, 3, 0), (192, .return_, 1, 0)], [(15, 9, 1, 4), (22, 9, 3, 0), (26, 9, 4, 0), (29, 9, 5, 0), (32, 9, 6, 0)], [(64, 0, 0, 0, f_Tp_readSigns)], [], [], [(0, [0]), (8, [0]), (55, [0]), (134, [0, 1])], [], 0)
def f_Tp_readOn : mm_F := fun args h => mm_ga [1] args (mm_gd 9 args h (mm_run p_Tp_readOn (mm_fu + 1) 0 args [] h))
set_option maxRecDepth 100000 in
theorem e_Tp_readOn_0 (f : Nat) (t : Nat) (h : mm_H) : mm_run p_Tp_readOn (f + 1) 0 [.ref t] [] h =
  (mm_gi 9 5 h t).bind fun x1 =>
  (mm_pf 9 4 (.int x1) h t).bind fun h2 =>
  mm_run p_Tp_readOn f 8 [.ref t] [] h2 := rfl
theorem e_Tp_readOn (t : Nat) (h : mm_H) {fs : List Value} (hb : h t = some (.inr (9, fs))) : f_Tp_readOn [.ref t] h =
  (mm_gi 9 5 h t).bind fun x1 =>
  (mm_pf 9 4 (.int x1) h t).bind fun h2 =>
  mm_run p_Tp_readOn mm_fu 8 [.ref t] [] h2 := (mm_ga_is rfl).trans ((mm_gd_is hb).trans (e_Tp_readOn_0 mm_fu t h))
set_option maxRecDepth 100000 in
theorem e_Tp_readOn_8 (f : Nat) (t : Nat) (h : mm_H) : mm_run p_Tp_readOn (f + 1) 8 [.ref t] [] h =
  (mm_gi 9 4 h t).bind fun x1 =>
  (mm_gi 9 3 h t).bind fun x2 =>
  if x1 < x2 then
    (mm_gi 9 4 h t).bind fun x3 =>
    if x3 < 1000 then
      (mm_gr 9 1 h t).bind fun r4 =>
      (mm_gi 9 4 h t).bind fun x5 =>
      (mm_lb h r4 x5).bind fun x6 =>
      if x6 = 5 then
        (mm_gi 9 4 h t).bind fun x7 =>
        (mm_pf 9 4 (.int (x7 + 1)) h t).bind fun h8 =>
        mm_run p_Tp_readOn f 8 [.ref t] [] h8
      else
        mm_run p_Tp_readOn f 55 [.ref t] [] h
    else
      mm_run p_Tp_readOn f 55 [.ref t] [] h
  else
    mm_run p_Tp_readOn f 55 [.ref t] [] h := rfl
set_option maxRecDepth 100000 in
theorem e_Tp_readOn_55 (f : Nat) (t : Nat) (h : mm_H) : mm_run p_Tp_readOn (f + 1) 55 [.ref t] [] h =
  (mm_gi 9 4 h t).bind fun x1 =>
  (mm_pf 9 5 (.int x1) h t).bind fun h2 =>
  (mm_pf 9 6 (.int 0) h2 t).bind fun h3 =>
  (mm_gi 9 4 h3 t).bind fun x4 =>
  (mm_gi 9 3 h3 t).bind fun x5 =>
  if x4 < x5 then
    (mm_gi 9 4 h3 t).bind fun x6 =>
    if x6 < 1000 then
      (mm_gr 9 1 h3 t).bind fun r7 =>
      (mm_gi 9 4 h3 t).bind fun x8 =>
      (mm_lb h3 r7 x8).bind fun x9 =>
      (mm_pf 9 6 (.int x9) h3 t).bind fun h10 =>
      (mm_gi 9 5 h10 t).bind fun x11 =>
      (mm_pf 9 5 (.int (x11 + 1)) h10 t).bind fun h12 =>
      (mm_gi 9 6 h12 t).bind fun x13 =>
      if x13 = 1 then
        mm_run p_Tp_readOn f 134 [.ref t, .int 1] [] h12
      else
        (mm_gi 9 6 h12 t).bind fun x14 =>
        if x14 = 2 then
          mm_run p_Tp_readOn f 134 [.ref t, .int 1] [] h12
        else
          mm_run p_Tp_readOn f 134 [.ref t, .int 0] [] h12
    else
      (mm_gi 9 6 h3 t).bind fun x15 =>
      if x15 = 1 then
        mm_run p_Tp_readOn f 134 [.ref t, .int 1] [] h3
      else
        (mm_gi 9 6 h3 t).bind fun x16 =>
        if x16 = 2 then
          mm_run p_Tp_readOn f 134 [.ref t, .int 1] [] h3
        else
          mm_run p_Tp_readOn f 134 [.ref t, .int 0] [] h3
  else
    (mm_gi 9 6 h3 t).bind fun x17 =>
    if x17 = 1 then
      mm_run p_Tp_readOn f 134 [.ref t, .int 1] [] h3
    else
      (mm_gi 9 6 h3 t).bind fun x18 =>
      if x18 = 2 then
        mm_run p_Tp_readOn f 134 [.ref t, .int 1] [] h3
      else
        mm_run p_Tp_readOn f 134 [.ref t, .int 0] [] h3 := rfl
set_option maxRecDepth 100000 in
theorem e_Tp_readOn_134 (f : Nat) (t : Nat) (v1 : Int32) (h : mm_H) : mm_run p_Tp_readOn (f + 1) 134 [.ref t, .int v1] [] h =
  if v1 = 0 then
    mm_cv (f_Tp_readSigns [.ref t] h) fun h1 =>
    some (none, h1)
  else
    (mm_gi 9 5 h t).bind fun x2 =>
    (mm_gi 9 3 h t).bind fun x3 =>
    if x2 < x3 then
      (mm_gi 9 5 h t).bind fun x4 =>
      if x4 < 1000 then
        (mm_gr 9 1 h t).bind fun r5 =>
        (mm_gi 9 5 h t).bind fun x6 =>
        (mm_lb h r5 x6).bind fun x7 =>
        (mm_gi 9 6 h t).bind fun x8 =>
        if x7 = x8 then
          (mm_gi 9 5 h t).bind fun x9 =>
          (mm_pf 9 5 (.int (x9 + 1)) h t).bind fun h10 =>
          mm_run p_Tp_readOn f 134 [.ref t, .int v1] [] h10
        else
          mm_cv (f_Tp_readSigns [.ref t] h) fun h11 =>
          some (none, h11)
      else
        mm_cv (f_Tp_readSigns [.ref t] h) fun h12 =>
        some (none, h12)
    else
      mm_cv (f_Tp_readSigns [.ref t] h) fun h13 =>
      some (none, h13) := rfl
set_option maxRecDepth 100000 in
theorem i_Tp_readOn (l : Launch) : mm_Imp l yX9_readOn cX9_readOn 2 none 2 f_Tp_readOn := mm_imp l (P := p_Tp_readOn) mm_cls_ok mm_sys_ok (by decide) (mm_Pok_of (List.forall_mem_cons.mpr ⟨k_X9_15, (List.forall_mem_cons.mpr ⟨k_X9_22, (List.forall_mem_cons.mpr ⟨k_X9_26, (List.forall_mem_cons.mpr ⟨k_X9_29, (List.forall_mem_cons.mpr ⟨k_X9_32, (fun _ h => absurd h List.not_mem_nil)⟩)⟩)⟩)⟩)⟩) (List.forall_mem_cons.mpr ⟨v_Tp_readSigns l q_745 (by decide), (fun _ h => absurd h List.not_mem_nil)⟩) (fun _ h => absurd h List.not_mem_nil) (fun _ h => absurd h List.not_mem_nil)) (by decide +kernel) rfl (cats := [1]) (fun as h r e => ⟨(mm_ga_inv e).1, (mm_gd_inv (mm_ga_inv e).2).1⟩) rfl (by decide)
theorem v_Tp_readOn (l : Launch) {own : String} {i n0 : Nat} (hl : Cond.methodLink own i yX9_readOn ∈ mm_tbl) (hn : 3 ≤ n0) : mm_cok l own n0 i (0, 0, 0, f_Tp_readOn) := Or.inr (Or.inr ⟨rfl, yX9_readOn, cX9_readOn, 2, none, 2, 9, TX9, 9, i_Tp_readOn l, hn, by decide, by decide +kernel, rfl, fun _ _ _ e => (mm_gd_inv (mm_ga_inv e).2).2, hl, q_742, q_743, q_164, q_744⟩)
def p_Tp_rewind : mm_P := ([(0, .aload_n 0, 1, 0), (1, .iconst 0, 1, 0), (2, .putfield 29, 3, 0), (5, .aload_n 0, 1, 0), (6, .invokevirtual 61, 3, 0), (9, .return_, 1, 0)], [(29, 9, 5, 0)], [(61, 0, 0, 0, f_Tp_readOn)], [], [], [(0, [0])], [], 0)
def f_Tp_rewind : mm_F := fun args h => mm_ga [1] args (mm_gd 9 args h (mm_run p_Tp_rewind (mm_fu + 1) 0 args [] h))
set_option maxRecDepth 100000 in
theorem e_Tp_rewind_0 (f : Nat) (t : Nat) (h : mm_H) : mm_run p_Tp_rewind (f + 1) 0 [.ref t] [] h =
  (mm_pf 9 5 (.int 0) h t).bind fun h1 =>
  mm_cv (f_Tp_readOn [.ref t] h1) fun h2 =>
  some (none, h2) := rfl
theorem e_Tp_rewind (t : Nat) (h : mm_H) {fs : List Value} (hb : h t = some (.inr (9, fs))) : f_Tp_rewind [.ref t] h =
  (mm_pf 9 5 (.int 0) h t).bind fun h1 =>
  mm_cv (f_Tp_readOn [.ref t] h1) fun h2 =>
  some (none, h2) := (mm_ga_is rfl).trans ((mm_gd_is hb).trans (e_Tp_rewind_0 mm_fu t h))
set_option maxRecDepth 100000 in
theorem i_Tp_rewind (l : Launch) : mm_Imp l yX9_rewind cX9_rewind 1 none 3 f_Tp_rewind := mm_imp l (P := p_Tp_rewind) mm_cls_ok mm_sys_ok (by decide) (mm_Pok_of (List.forall_mem_cons.mpr ⟨k_X9_29, (fun _ h => absurd h List.not_mem_nil)⟩) (List.forall_mem_cons.mpr ⟨v_Tp_readOn l q_741 (by decide), (fun _ h => absurd h List.not_mem_nil)⟩) (fun _ h => absurd h List.not_mem_nil) (fun _ h => absurd h List.not_mem_nil)) (by decide +kernel) rfl (cats := [1]) (fun as h r e => ⟨(mm_ga_inv e).1, (mm_gd_inv (mm_ga_inv e).2).1⟩) rfl (by decide)
theorem v_Tp_rewind (l : Launch) {own : String} {i n0 : Nat} (hl : Cond.methodLink own i yX9_rewind ∈ mm_tbl) (hn : 4 ≤ n0) : mm_cok l own n0 i (0, 0, 0, f_Tp_rewind) := Or.inr (Or.inr ⟨rfl, yX9_rewind, cX9_rewind, 1, none, 3, 9, TX9, 9, i_Tp_rewind l, hn, by decide, by decide +kernel, rfl, fun _ _ _ e => (mm_gd_inv (mm_ga_inv e).2).2, hl, q_738, q_739, q_164, q_740⟩)
def p_Rd_wrong : mm_P := ([(0, .aload_n 0, 1, 0), (1, .iload_n 1, 1, 0), (2, .bipush 16, 2, 16), (4, .aload_n 0, 1, 0), (5, .getfield 35, 3, 0), (8, .getfield 93, 3, 0), (11, .imul, 1, 0), (12, .iadd, 1, 0), (13, .putfield 25, 3, 0), (16, .iconst 0, 1, 0), (17, .ireturn, 1, 0)], [(25, 6, 3, 0), (35, 6, 0, 4), (93, 9, 4, 0)], [], [], [], [(0, [0, 1])], [], 1)
def f_Rd_wrong : mm_F := fun args h => mm_ga [1, 1] args (mm_gd 6 args h (mm_run p_Rd_wrong (mm_fu + 1) 0 args [] h))
set_option maxRecDepth 100000 in
theorem e_Rd_wrong_0 (f : Nat) (t : Nat) (v1 : Int32) (h : mm_H) : mm_run p_Rd_wrong (f + 1) 0 [.ref t, .int v1] [] h =
  (mm_gr 6 0 h t).bind fun r1 =>
  (mm_gi 9 4 h r1).bind fun x2 =>
  (mm_pf 6 3 (.int (v1 + (16 * x2))) h t).bind fun h3 =>
  some (some (.int 0), h3) := rfl
theorem e_Rd_wrong (t : Nat) (v1 : Int32) (h : mm_H) {fs : List Value} (hb : h t = some (.inr (6, fs))) : f_Rd_wrong [.ref t, .int v1] h =
  (mm_gr 6 0 h t).bind fun r1 =>
  (mm_gi 9 4 h r1).bind fun x2 =>
  (mm_pf 6 3 (.int (v1 + (16 * x2))) h t).bind fun h3 =>
  some (some (.int 0), h3) := (mm_ga_is rfl).trans ((mm_gd_is hb).trans (e_Rd_wrong_0 mm_fu t v1 h))
set_option maxRecDepth 100000 in
theorem i_Rd_wrong (l : Launch) : mm_Imp l yX6_wrong cX6_wrong 2 (some .boolean) 1 f_Rd_wrong := mm_imp l (P := p_Rd_wrong) mm_cls_ok mm_sys_ok (by decide) (mm_Pok_of (List.forall_mem_cons.mpr ⟨k_X6_25, (List.forall_mem_cons.mpr ⟨k_X6_35, (List.forall_mem_cons.mpr ⟨k_X6_93, (fun _ h => absurd h List.not_mem_nil)⟩)⟩)⟩) (fun _ h => absurd h List.not_mem_nil) (fun _ h => absurd h List.not_mem_nil) (fun _ h => absurd h List.not_mem_nil)) (by decide +kernel) rfl (cats := [1, 1]) (fun as h r e => ⟨(mm_ga_inv e).1, (mm_gd_inv (mm_ga_inv e).2).1⟩) rfl (by decide)
theorem v_Rd_wrong (l : Launch) {own : String} {i n0 : Nat} (hl : Cond.methodLink own i yX6_wrong ∈ mm_tbl) (hn : 2 ≤ n0) : mm_cok l own n0 i (0, 1, 1, f_Rd_wrong) := Or.inr (Or.inr ⟨rfl, yX6_wrong, cX6_wrong, 2, (some .boolean), 1, 6, TX6, 6, i_Rd_wrong l, hn, by decide, by decide +kernel, rfl, fun _ _ _ e => (mm_gd_inv (mm_ga_inv e).2).2, hl, q_759, q_3, q_169, q_760⟩)
def p_Rd_takeSingle : mm_P := ([(0, .iconst 1, 1, 1), (1, .aload_n 0, 1, 0), (2, .getfield 35, 3, 0), (5, .getfield 50, 3, 0), (8, .ishl, 1, 0), (9, .istore_n 1, 1, 0), (10, .aload_n 0, 1, 0), (11, .getfield 32, 3, 0), (14, .iload_n 1, 1, 0), (15, .iand, 1, 0), (16, .ifCond .eq 9, 3, 0), (19, .aload_n 0, 1, 0), (20, .iconst 3, 1, 3), (21, .invokevirtual 83, 3, 0), (24, .ireturn, 1, 0), (25, .aload_n 0, 1, 0), (26, .dup, 1, 0), (27, .getfield 32, 3, 0), (30, .iload_n 1, 1, 0), (31, .ior, 1, 0), (32, .putfield 32, 3, 0), (35, .aload_n 0, 1, 0), (36, .getfield 35, 3, 0), (39, .invokevirtual 99, 3, 0), (42, .iconst 1, 1, 1), (43, .ireturn, 1, 0)], [(32, 6, 5, 0), (35, 6, 0, 4), (50, 9, 7, 0)], [(83, 0, 1, 1, f_Rd_wrong), (99, 0, 0, 0, f_Tp_readOn)], [], [], [(0, [0])], [], 1)
def f_Rd_takeSingle : mm_F := fun args h => mm_ga [1] args (mm_gd 6 args h (mm_run p_Rd_takeSingle (mm_fu + 1) 0 args [] h))
set_option maxRecDepth 100000 in
theorem e_Rd_takeSingle_0 (f : Nat) (t : Nat) (h : mm_H) : mm_run p_Rd_takeSingle (f + 1) 0 [.ref t] [] h =
  (mm_gr 6 0 h t).bind fun r1 =>
  (mm_gi 9 7 h r1).bind fun x2 =>
  (mm_gi 6 5 h t).bind fun x3 =>
  if (x3 &&& (1 <<< (x2 &&& 31))) = 0 then
    (mm_gi 6 5 h t).bind fun x4 =>
    (mm_pf 6 5 (.int (x4 ||| (1 <<< (x2 &&& 31)))) h t).bind fun h5 =>
    (mm_gr 6 0 h5 t).bind fun r6 =>
    mm_cv (f_Tp_readOn [.ref r6] h5) fun h7 =>
    some (some (.int 1), h7)
  else
    mm_ci (f_Rd_wrong [.ref t, .int 3] h) fun x9 h8 =>
    if x9 = 0 ∨ x9 = 1 then some (some (.int x9), h8) else none := rfl
theorem e_Rd_takeSingle (t : Nat) (h : mm_H) {fs : List Value} (hb : h t = some (.inr (6, fs))) : f_Rd_takeSingle [.ref t] h =
  (mm_gr 6 0 h t).bind fun r1 =>
  (mm_gi 9 7 h r1).bind fun x2 =>
  (mm_gi 6 5 h t).bind fun x3 =>
  if (x3 &&& (1 <<< (x2 &&& 31))) = 0 then
    (mm_gi 6 5 h t).bind fun x4 =>
    (mm_pf 6 5 (.int (x4 ||| (1 <<< (x2 &&& 31)))) h t).bind fun h5 =>
    (mm_gr 6 0 h5 t).bind fun r6 =>
    mm_cv (f_Tp_readOn [.ref r6] h5) fun h7 =>
    some (some (.int 1), h7)
  else
    mm_ci (f_Rd_wrong [.ref t, .int 3] h) fun x9 h8 =>
    if x9 = 0 ∨ x9 = 1 then some (some (.int x9), h8) else none := (mm_ga_is rfl).trans ((mm_gd_is hb).trans (e_Rd_takeSingle_0 mm_fu t h))
set_option maxRecDepth 100000 in
theorem i_Rd_takeSingle (l : Launch) : mm_Imp l yX6_takeSingle cX6_takeSingle 2 (some .boolean) 3 f_Rd_takeSingle := mm_imp l (P := p_Rd_takeSingle) mm_cls_ok mm_sys_ok (by decide) (mm_Pok_of (List.forall_mem_cons.mpr ⟨k_X6_32, (List.forall_mem_cons.mpr ⟨k_X6_35, (List.forall_mem_cons.mpr ⟨k_X6_50, (fun _ h => absurd h List.not_mem_nil)⟩)⟩)⟩) (List.forall_mem_cons.mpr ⟨v_Rd_wrong l q_757 (by decide), (List.forall_mem_cons.mpr ⟨v_Tp_readOn l q_761 (by decide), (fun _ h => absurd h List.not_mem_nil)⟩)⟩) (fun _ h => absurd h List.not_mem_nil) (fun _ h => absurd h List.not_mem_nil)) (by decide +kernel) rfl (cats := [1]) (fun as h r e => ⟨(mm_ga_inv e).1, (mm_gd_inv (mm_ga_inv e).2).1⟩) rfl (by decide)
theorem v_Rd_takeSingle (l : Launch) {own : String} {i n0 : Nat} (hl : Cond.methodLink own i yX6_takeSingle ∈ mm_tbl) (hn : 4 ≤ n0) : mm_cok l own n0 i (0, 0, 1, f_Rd_takeSingle) := Or.inr (Or.inr ⟨rfl, yX6_takeSingle, cX6_takeSingle, 2, (some .boolean), 3, 6, TX6, 6, i_Rd_takeSingle l, hn, by decide, by decide +kernel, rfl, fun _ _ _ e => (mm_gd_inv (mm_ga_inv e).2).2, hl, q_755, q_2, q_169, q_756⟩)
def p_Rd_takeNumber : mm_P := ([(0, .aload_n 0, 1, 0), (1, .getfield 35, 3, 0), (4, .getfield 47, 3, 0), (7, .iconst 2, 1, 2), (8, .if_icmp .eq 9, 3, 0), (11, .aload_n 0, 1, 0), (12, .iconst 1, 1, 1), (13, .invokevirtual 83, 3, 0), (16, .ireturn, 1, 0), (17, .aload_n 0, 1, 0), (18, .getfield 35, 3, 0), (21, .getfield 50, 3, 0), (24, .iload_n 1, 1, 0), (25, .if_icmp .lt 14, 3, 0), (28, .aload_n 0, 1, 0), (29, .getfield 35, 3, 0), (32, .getfield 50, 3, 0), (35, .iload_n 2, 1, 0), (36, .if_icmp .le 9, 3, 0), (39, .aload_n 0, 1, 0), (40, .iconst 4, 1, 4), (41, .invokevirtual 83, 3, 0), (44, .ireturn, 1, 0), (45, .aload_n 0, 1, 0), (46, .aload_n 0, 1, 0), (47, .getfield 35, 3, 0), (50, .getfield 50, 3, 0), (53, .putfield 29, 3, 0), (56, .aload_n 0, 1, 0), (57, .getfield 35, 3, 0), (60, .invokevirtual 99, 3, 0), (63, .iconst 1, 1, 1), (64, .ireturn, 1, 0)], [(29, 6, 4, 0), (35, 6, 0, 4), (47, 9, 6, 0), (50, 9, 7, 0)], [(83, 0, 1, 1, f_Rd_wrong), (99, 0, 0, 0, f_Tp_readOn)], [], [], [(0, [0, 1, 2])], [], 1)
def f_Rd_takeNumber : mm_F := fun args h => mm_ga [1, 1, 1] args (mm_gd 6 args h (mm_run p_Rd_takeNumber (mm_fu + 1) 0 args [] h))
set_option maxRecDepth 100000 in
theorem e_Rd_takeNumber_0 (f : Nat) (t : Nat) (v1 : Int32) (v2 : Int32) (h : mm_H) : mm_run p_Rd_takeNumber (f + 1) 0 [.ref t, .int v1, .int v2] [] h =
  (mm_gr 6 0 h t).bind fun r1 =>
  (mm_gi 9 6 h r1).bind fun x2 =>
  if x2 = 2 then
    (mm_gr 6 0 h t).bind fun r3 =>
    (mm_gi 9 7 h r3).bind fun x4 =>
    if x4 < v1 then
      mm_ci (f_Rd_wrong [.ref t, .int 4] h) fun x6 h5 =>
      if x6 = 0 ∨ x6 = 1 then some (some (.int x6), h5) else none
    else
      (mm_gr 6 0 h t).bind fun r7 =>
      (mm_gi 9 7 h r7).bind fun x8 =>
      if v2 < x8 then
        mm_ci (f_Rd_wrong [.ref t, .int 4] h) fun x10 h9 =>
        if x10 = 0 ∨ x10 = 1 then some (some (.int x10), h9) else none
      else
        (mm_gr 6 0 h t).bind fun r11 =>
        (mm_gi 9 7 h r11).bind fun x12 =>
        (mm_pf 6 4 (.int x12) h t).bind fun h13 =>
        (mm_gr 6 0 h13 t).bind fun r14 =>
        mm_cv (f_Tp_readOn [.ref r14] h13) fun h15 =>
        some (some (.int 1), h15)
  else
    mm_ci (f_Rd_wrong [.ref t, .int 1] h) fun x17 h16 =>
    if x17 = 0 ∨ x17 = 1 then some (some (.int x17), h16) else none := rfl
theorem e_Rd_takeNumber (t : Nat) (v1 : Int32) (v2 : Int32) (h : mm_H) {fs : List Value} (hb : h t = some (.inr (6, fs))) : f_Rd_takeNumber [.ref t, .int v1, .int v2] h =
  (mm_gr 6 0 h t).bind fun r1 =>
  (mm_gi 9 6 h r1).bind fun x2 =>
  if x2 = 2 then
    (mm_gr 6 0 h t).bind fun r3 =>
    (mm_gi 9 7 h r3).bind fun x4 =>
    if x4 < v1 then
      mm_ci (f_Rd_wrong [.ref t, .int 4] h) fun x6 h5 =>
      if x6 = 0 ∨ x6 = 1 then some (some (.int x6), h5) else none
    else
      (mm_gr 6 0 h t).bind fun r7 =>
      (mm_gi 9 7 h r7).bind fun x8 =>
      if v2 < x8 then
        mm_ci (f_Rd_wrong [.ref t, .int 4] h) fun x10 h9 =>
        if x10 = 0 ∨ x10 = 1 then some (some (.int x10), h9) else none
      else
        (mm_gr 6 0 h t).bind fun r11 =>
        (mm_gi 9 7 h r11).bind fun x12 =>
        (mm_pf 6 4 (.int x12) h t).bind fun h13 =>
        (mm_gr 6 0 h13 t).bind fun r14 =>
        mm_cv (f_Tp_readOn [.ref r14] h13) fun h15 =>
        some (some (.int 1), h15)
  else
    mm_ci (f_Rd_wrong [.ref t, .int 1] h) fun x17 h16 =>
    if x17 = 0 ∨ x17 = 1 then some (some (.int x17), h16) else none := (mm_ga_is rfl).trans ((mm_gd_is hb).trans (e_Rd_takeNumber_0 mm_fu t v1 v2 h))
set_option maxRecDepth 100000 in
theorem i_Rd_takeNumber (l : Launch) : mm_Imp l yX6_takeNumber cX6_takeNumber 3 (some .boolean) 3 f_Rd_takeNumber := mm_imp l (P := p_Rd_takeNumber) mm_cls_ok mm_sys_ok (by decide) (mm_Pok_of (List.forall_mem_cons.mpr ⟨k_X6_29, (List.forall_mem_cons.mpr ⟨k_X6_35, (List.forall_mem_cons.mpr ⟨k_X6_47, (List.forall_mem_cons.mpr ⟨k_X6_50, (fun _ h => absurd h List.not_mem_nil)⟩)⟩)⟩)⟩) (List.forall_mem_cons.mpr ⟨v_Rd_wrong l q_757 (by decide), (List.forall_mem_cons.mpr ⟨v_Tp_readOn l q_761 (by decide), (fun _ h => absurd h List.not_mem_nil)⟩)⟩) (fun _ h => absurd h List.not_mem_nil) (fun _ h => absurd h List.not_mem_nil)) (by decide +kernel) rfl (cats := [1, 1, 1]) (fun as h r e => ⟨(mm_ga_inv e).1, (mm_gd_inv (mm_ga_inv e).2).1⟩) rfl (by decide)
theorem v_Rd_takeNumber (l : Launch) {own : String} {i n0 : Nat} (hl : Cond.methodLink own i yX6_takeNumber ∈ mm_tbl) (hn : 4 ≤ n0) : mm_cok l own n0 i (0, 2, 1, f_Rd_takeNumber) := Or.inr (Or.inr ⟨rfl, yX6_takeNumber, cX6_takeNumber, 3, (some .boolean), 3, 6, TX6, 6, i_Rd_takeNumber l, hn, by decide, by decide +kernel, rfl, fun _ _ _ e => (mm_gd_inv (mm_ga_inv e).2).2, hl, q_764, q_4, q_169, q_765⟩)
def p_Rd_takeMark : mm_P := ([(0, .aload_n 0, 1, 0), (1, .getfield 35, 3, 0), (4, .getfield 47, 3, 0), (7, .iconst 3, 1, 3), (8, .if_icmp .eq 9, 3, 0), (11, .aload_n 0, 1, 0), (12, .iconst 1, 1, 1), (13, .invokevirtual 83, 3, 0), (16, .ireturn, 1, 0), (17, .aload_n 0, 1, 0), (18, .getfield 35, 3, 0), (21, .invokevirtual 99, 3, 0), (24, .iconst 1, 1, 1), (25, .ireturn, 1, 0)], [(35, 6, 0, 4), (47, 9, 6, 0)], [(83, 0, 1, 1, f_Rd_wrong), (99, 0, 0, 0, f_Tp_readOn)], [], [], [(0, [0])], [], 1)
def f_Rd_takeMark : mm_F := fun args h => mm_ga [1] args (mm_gd 6 args h (mm_run p_Rd_takeMark (mm_fu + 1) 0 args [] h))
set_option maxRecDepth 100000 in
theorem e_Rd_takeMark_0 (f : Nat) (t : Nat) (h : mm_H) : mm_run p_Rd_takeMark (f + 1) 0 [.ref t] [] h =
  (mm_gr 6 0 h t).bind fun r1 =>
  (mm_gi 9 6 h r1).bind fun x2 =>
  if x2 = 3 then
    (mm_gr 6 0 h t).bind fun r3 =>
    mm_cv (f_Tp_readOn [.ref r3] h) fun h4 =>
    some (some (.int 1), h4)
  else
    mm_ci (f_Rd_wrong [.ref t, .int 1] h) fun x6 h5 =>
    if x6 = 0 ∨ x6 = 1 then some (some (.int x6), h5) else none := rfl
theorem e_Rd_takeMark (t : Nat) (h : mm_H) {fs : List Value} (hb : h t = some (.inr (6, fs))) : f_Rd_takeMark [.ref t] h =
  (mm_gr 6 0 h t).bind fun r1 =>
  (mm_gi 9 6 h r1).bind fun x2 =>
  if x2 = 3 then
    (mm_gr 6 0 h t).bind fun r3 =>
    mm_cv (f_Tp_readOn [.ref r3] h) fun h4 =>
    some (some (.int 1), h4)
  else
    mm_ci (f_Rd_wrong [.ref t, .int 1] h) fun x6 h5 =>
    if x6 = 0 ∨ x6 = 1 then some (some (.int x6), h5) else none := (mm_ga_is rfl).trans ((mm_gd_is hb).trans (e_Rd_takeMark_0 mm_fu t h))
set_option maxRecDepth 100000 in
theorem i_Rd_takeMark (l : Launch) : mm_Imp l yX6_takeMark cX6_takeMark 1 (some .boolean) 3 f_Rd_takeMark := mm_imp l (P := p_Rd_takeMark) mm_cls_ok mm_sys_ok (by decide) (mm_Pok_of (List.forall_mem_cons.mpr ⟨k_X6_35, (List.forall_mem_cons.mpr ⟨k_X6_47, (fun _ h => absurd h List.not_mem_nil)⟩)⟩) (List.forall_mem_cons.mpr ⟨v_Rd_wrong l q_757 (by decide), (List.forall_mem_cons.mpr ⟨v_Tp_readOn l q_761 (by decide), (fun _ h => absurd h List.not_mem_nil)⟩)⟩) (fun _ h => absurd h List.not_mem_nil) (fun _ h => absurd h List.not_mem_nil)) (by decide +kernel) rfl (cats := [1]) (fun as h r e => ⟨(mm_ga_inv e).1, (mm_gd_inv (mm_ga_inv e).2).1⟩) rfl (by decide)
theorem v_Rd_takeMark (l : Launch) {own : String} {i n0 : Nat} (hl : Cond.methodLink own i yX6_takeMark ∈ mm_tbl) (hn : 4 ≤ n0) : mm_cok l own n0 i (0, 0, 1, f_Rd_takeMark) := Or.inr (Or.inr ⟨rfl, yX6_takeMark, cX6_takeMark, 1, (some .boolean), 3, 6, TX6, 6, i_Rd_takeMark l, hn, by decide, by decide +kernel, rfl, fun _ _ _ e => (mm_gd_inv (mm_ga_inv e).2).2, hl, q_768, q_5, q_169, q_769⟩)
def p_Rd_pageLine : mm_P := ([(0, .aload_n 0, 1, 0), (1, .invokevirtual 69, 3, 0), (4, .ifCond .eq 13, 3, 0), (7, .aload_n 0, 1, 0), (8, .iconst 2, 1, 2), (9, .bipush 8, 2, 8), (11, .invokevirtual 106, 3, 0), (14, .ifCond .ne 5, 3, 0), (17, .iconst 0, 1, 0), (18, .ireturn, 1, 0), (19, .aload_n 0, 1, 0), (20, .getfield 12, 3, 0), (23, .aload_n 0, 1, 0), (24, .getfield 29, 3, 0), (27, .putfield 109, 3, 0), (30, .aload_n 0, 1, 0), (31, .invokevirtual 112, 3, 0), (34, .ireturn, 1, 0)], [(12, 6, 1, 2), (29, 6, 4, 0), (109, 4, 8, 0)], [(69, 0, 0, 1, f_Rd_takeSingle), (106, 0, 2, 1, f_Rd_takeNumber), (112, 0, 0, 1, f_Rd_takeMark)], [], [], [(0, [0])], [], 1)
def f_Rd_pageLine : mm_F := fun args h => mm_ga [1] args (mm_gd 6 args h (mm_run p_Rd_pageLine (mm_fu + 1) 0 args [] h))
set_option maxRecDepth 100000 in
theorem e_Rd_pageLine_0 (f : Nat) (t : Nat) (h : mm_H) : mm_run p_Rd_pageLine (f + 1) 0 [.ref t] [] h =
  mm_ci (f_Rd_takeSingle [.ref t] h) fun x2 h1 =>
  if x2 = 0 then
    some (some (.int 0), h1)
  else
    mm_ci (f_Rd_takeNumber [.ref t, .int 2, .int 8] h1) fun x4 h3 =>
    if x4 = 0 then
      some (some (.int 0), h3)
    else
      (mm_gr 6 1 h3 t).bind fun r5 =>
      (mm_gi 6 4 h3 t).bind fun x6 =>
      (mm_pf 4 8 (.int x6) h3 r5).bind fun h7 =>
      mm_ci (f_Rd_takeMark [.ref t] h7) fun x9 h8 =>
      if x9 = 0 ∨ x9 = 1 then some (some (.int x9), h8) else none := rfl
theorem e_Rd_pageLine (t : Nat) (h : mm_H) {fs : List Value} (hb : h t = some (.inr (6, fs))) : f_Rd_pageLine [.ref t] h =
  mm_ci (f_Rd_takeSingle [.ref t] h) fun x2 h1 =>
  if x2 = 0 then
    some (some (.int 0), h1)
  else
    mm_ci (f_Rd_takeNumber [.ref t, .int 2, .int 8] h1) fun x4 h3 =>
    if x4 = 0 then
      some (some (.int 0), h3)
    else
      (mm_gr 6 1 h3 t).bind fun r5 =>
      (mm_gi 6 4 h3 t).bind fun x6 =>
      (mm_pf 4 8 (.int x6) h3 r5).bind fun h7 =>
      mm_ci (f_Rd_takeMark [.ref t] h7) fun x9 h8 =>
      if x9 = 0 ∨ x9 = 1 then some (some (.int x9), h8) else none := (mm_ga_is rfl).trans ((mm_gd_is hb).trans (e_Rd_pageLine_0 mm_fu t h))
set_option maxRecDepth 100000 in
theorem i_Rd_pageLine (l : Launch) : mm_Imp l yX6_pageLine cX6_pageLine 1 (some .boolean) 4 f_Rd_pageLine := mm_imp l (P := p_Rd_pageLine) mm_cls_ok mm_sys_ok (by decide) (mm_Pok_of (List.forall_mem_cons.mpr ⟨k_X6_12, (List.forall_mem_cons.mpr ⟨k_X6_29, (List.forall_mem_cons.mpr ⟨k_X6_109, (fun _ h => absurd h List.not_mem_nil)⟩)⟩)⟩) (List.forall_mem_cons.mpr ⟨v_Rd_takeSingle l q_753 (by decide), (List.forall_mem_cons.mpr ⟨v_Rd_takeNumber l q_762 (by decide), (List.forall_mem_cons.mpr ⟨v_Rd_takeMark l q_766 (by decide), (fun _ h => absurd h List.not_mem_nil)⟩)⟩)⟩) (fun _ h => absurd h List.not_mem_nil) (fun _ h => absurd h List.not_mem_nil)) (by decide +kernel) rfl (cats := [1]) (fun as h r e => ⟨(mm_ga_inv e).1, (mm_gd_inv (mm_ga_inv e).2).1⟩) rfl (by decide)
theorem v_Rd_pageLine (l : Launch) {own : String} {i n0 : Nat} (hl : Cond.methodLink own i yX6_pageLine ∈ mm_tbl) (hn : 5 ≤ n0) : mm_cok l own n0 i (0, 0, 1, f_Rd_pageLine) := Or.inr (Or.inr ⟨rfl, yX6_pageLine, cX6_pageLine, 1, (some .boolean), 4, 6, TX6, 6, i_Rd_pageLine l, hn, by decide, by decide +kernel, rfl, fun _ _ _ e => (mm_gd_inv (mm_ga_inv e).2).2, hl, q_751, q_1, q_169, q_752⟩)
def p_Rd_batchLine : mm_P := ([(0, .aload_n 0, 1, 0), (1, .invokevirtual 69, 3, 0), (4, .ifCond .eq 13, 3, 0), (7, .aload_n 0, 1, 0), (8, .iconst 1, 1, 1), (9, .bipush 8, 2, 8), (11, .invokevirtual 106, 3, 0), (14, .ifCond .ne 5, 3, 0), (17, .iconst 0, 1, 0), (18, .ireturn, 1, 0), (19, .aload_n 0, 1, 0), (20, .getfield 12, 3, 0), (23, .aload_n 0, 1, 0), (24, .getfield 29, 3, 0), (27, .putfield 115, 3, 0), (30, .aload_n 0, 1, 0), (31, .invokevirtual 112, 3, 0), (34, .ireturn, 1, 0)], [(12, 6, 1, 2), (29, 6, 4, 0), (115, 4, 9, 0)], [(69, 0, 0, 1, f_Rd_takeSingle), (106, 0, 2, 1, f_Rd_takeNumber), (112, 0, 0, 1, f_Rd_takeMark)], [], [], [(0, [0])], [], 1)
def f_Rd_batchLine : mm_F := fun args h => mm_ga [1] args (mm_gd 6 args h (mm_run p_Rd_batchLine (mm_fu + 1) 0 args [] h))
set_option maxRecDepth 100000 in
theorem e_Rd_batchLine_0 (f : Nat) (t : Nat) (h : mm_H) : mm_run p_Rd_batchLine (f + 1) 0 [.ref t] [] h =
  mm_ci (f_Rd_takeSingle [.ref t] h) fun x2 h1 =>
  if x2 = 0 then
    some (some (.int 0), h1)
  else
    mm_ci (f_Rd_takeNumber [.ref t, .int 1, .int 8] h1) fun x4 h3 =>
    if x4 = 0 then
      some (some (.int 0), h3)
    else
      (mm_gr 6 1 h3 t).bind fun r5 =>
      (mm_gi 6 4 h3 t).bind fun x6 =>
      (mm_pf 4 9 (.int x6) h3 r5).bind fun h7 =>
      mm_ci (f_Rd_takeMark [.ref t] h7) fun x9 h8 =>
      if x9 = 0 ∨ x9 = 1 then some (some (.int x9), h8) else none := rfl
theorem e_Rd_batchLine (t : Nat) (h : mm_H) {fs : List Value} (hb : h t = some (.inr (6, fs))) : f_Rd_batchLine [.ref t] h =
  mm_ci (f_Rd_takeSingle [.ref t] h) fun x2 h1 =>
  if x2 = 0 then
    some (some (.int 0), h1)
  else
    mm_ci (f_Rd_takeNumber [.ref t, .int 1, .int 8] h1) fun x4 h3 =>
    if x4 = 0 then
      some (some (.int 0), h3)
    else
      (mm_gr 6 1 h3 t).bind fun r5 =>
      (mm_gi 6 4 h3 t).bind fun x6 =>
      (mm_pf 4 9 (.int x6) h3 r5).bind fun h7 =>
      mm_ci (f_Rd_takeMark [.ref t] h7) fun x9 h8 =>
      if x9 = 0 ∨ x9 = 1 then some (some (.int x9), h8) else none := (mm_ga_is rfl).trans ((mm_gd_is hb).trans (e_Rd_batchLine_0 mm_fu t h))
set_option maxRecDepth 100000 in
theorem i_Rd_batchLine (l : Launch) : mm_Imp l yX6_batchLine cX6_batchLine 1 (some .boolean) 4 f_Rd_batchLine := mm_imp l (P := p_Rd_batchLine) mm_cls_ok mm_sys_ok (by decide) (mm_Pok_of (List.forall_mem_cons.mpr ⟨k_X6_12, (List.forall_mem_cons.mpr ⟨k_X6_29, (List.forall_mem_cons.mpr ⟨k_X6_115, (fun _ h => absurd h List.not_mem_nil)⟩)⟩)⟩) (List.forall_mem_cons.mpr ⟨v_Rd_takeSingle l q_753 (by decide), (List.forall_mem_cons.mpr ⟨v_Rd_takeNumber l q_762 (by decide), (List.forall_mem_cons.mpr ⟨v_Rd_takeMark l q_766 (by decide), (fun _ h => absurd h List.not_mem_nil)⟩)⟩)⟩) (fun _ h => absurd h List.not_mem_nil) (fun _ h => absurd h List.not_mem_nil)) (by decide +kernel) rfl (cats := [1]) (fun as h r e => ⟨(mm_ga_inv e).1, (mm_gd_inv (mm_ga_inv e).2).1⟩) rfl (by decide)
theorem v_Rd_batchLine (l : Launch) {own : String} {i n0 : Nat} (hl : Cond.methodLink own i yX6_batchLine ∈ mm_tbl) (hn : 5 ≤ n0) : mm_cok l own n0 i (0, 0, 1, f_Rd_batchLine) := Or.inr (Or.inr ⟨rfl, yX6_batchLine, cX6_batchLine, 1, (some .boolean), 4, 6, TX6, 6, i_Rd_batchLine l, hn, by decide, by decide +kernel, rfl, fun _ _ _ e => (mm_gd_inv (mm_ga_inv e).2).2, hl, q_772, q_6, q_169, q_773⟩)
def p_Tp_isName : mm_P := ([(0, .aload_n 0, 1, 0), (1, .getfield 32, 3, 0), (4, .iconst 1, 1, 1), (5, .if_icmp .ne 15, 3, 0), (8, .aload_n 0, 1, 0), (9, .getfield 35, 3, 0), (12, .iconst (-1), 1, (-1)), (13, .if_icmp .ne 7, 3, 0), (16, .iconst 1, 1, 1), (17, .goto 4, 3, 0), (20, .iconst 0, 1, 0), (21, .ireturn, 1, 0)], [(32, 9, 6, 0), (35, 9, 7, 0)], [], [], [], [(0, [0])], [], 1)
def f_Tp_isName : mm_F := fun args h => mm_ga [1] args (mm_gd 9 args h (mm_run p_Tp_isName (mm_fu + 1) 0 args [] h))
set_option maxRecDepth 100000 in
theorem e_Tp_isName_0 (f : Nat) (t : Nat) (h : mm_H) : mm_run p_Tp_isName (f + 1) 0 [.ref t] [] h =
  (mm_gi 9 6 h t).bind fun x1 =>
  if x1 = 1 then
    (mm_gi 9 7 h t).bind fun x2 =>
    if x2 = (-1) then
      some (some (.int 1), h)
    else
      some (some (.int 0), h)
  else
    some (some (.int 0), h) := rfl
theorem e_Tp_isName (t : Nat) (h : mm_H) {fs : List Value} (hb : h t = some (.inr (9, fs))) : f_Tp_isName [.ref t] h =
  (mm_gi 9 6 h t).bind fun x1 =>
  if x1 = 1 then
    (mm_gi 9 7 h t).bind fun x2 =>
    if x2 = (-1) then
      some (some (.int 1), h)
    else
      some (some (.int 0), h)
  else
    some (some (.int 0), h) := (mm_ga_is rfl).trans ((mm_gd_is hb).trans (e_Tp_isName_0 mm_fu t h))
set_option maxRecDepth 100000 in
theorem i_Tp_isName (l : Launch) : mm_Imp l yX9_isName cX9_isName 1 (some .boolean) 1 f_Tp_isName := mm_imp l (P := p_Tp_isName) mm_cls_ok mm_sys_ok (by decide) (mm_Pok_of (List.forall_mem_cons.mpr ⟨k_X9_32, (List.forall_mem_cons.mpr ⟨k_X9_35, (fun _ h => absurd h List.not_mem_nil)⟩)⟩) (fun _ h => absurd h List.not_mem_nil) (fun _ h => absurd h List.not_mem_nil) (fun _ h => absurd h List.not_mem_nil)) (by decide +kernel) rfl (cats := [1]) (fun as h r e => ⟨(mm_ga_inv e).1, (mm_gd_inv (mm_ga_inv e).2).1⟩) rfl (by decide)
theorem v_Tp_isName (l : Launch) {own : String} {i n0 : Nat} (hl : Cond.methodLink own i yX9_isName ∈ mm_tbl) (hn : 2 ≤ n0) : mm_cok l own n0 i (0, 0, 1, f_Tp_isName) := Or.inr (Or.inr ⟨rfl, yX9_isName, cX9_isName, 1, (some .boolean), 1, 9, TX9, 9, i_Tp_isName l, hn, by decide, by decide +kernel, rfl, fun _ _ _ e => (mm_gd_inv (mm_ga_inv e).2).2, hl, q_779, q_780, q_164, q_781⟩)
def p_Tp_isBetween : mm_P := ([(0, .aload_n 0, 1, 0), (1, .getfield 32, 3, 0), (4, .iconst 1, 1, 1), (5, .if_icmp .ne 23, 3, 0), (8, .aload_n 0, 1, 0), (9, .getfield 35, 3, 0), (12, .iload_n 1, 1, 0), (13, .if_icmp .lt 15, 3, 0), (16, .aload_n 0, 1, 0), (17, .getfield 35, 3, 0), (20, .iload_n 2, 1, 0), (21, .if_icmp .gt 7, 3, 0), (24, .iconst 1, 1, 1), (25, .goto 4, 3, 0), (28, .iconst 0, 1, 0), (29, .ireturn, 1, 0)], [(32, 9, 6, 0), (35, 9, 7, 0)], [], [], [], [(0, [0, 1, 2])], [], 1)
def f_Tp_isBetween : mm_F := fun args h => mm_ga [1, 1, 1] args (mm_gd 9 args h (mm_run p_Tp_isBetween (mm_fu + 1) 0 args [] h))
set_option maxRecDepth 100000 in
theorem e_Tp_isBetween_0 (f : Nat) (t : Nat) (v1 : Int32) (v2 : Int32) (h : mm_H) : mm_run p_Tp_isBetween (f + 1) 0 [.ref t, .int v1, .int v2] [] h =
  (mm_gi 9 6 h t).bind fun x1 =>
  if x1 = 1 then
    (mm_gi 9 7 h t).bind fun x2 =>
    if x2 < v1 then
      some (some (.int 0), h)
    else
      (mm_gi 9 7 h t).bind fun x3 =>
      if v2 < x3 then
        some (some (.int 0), h)
      else
        some (some (.int 1), h)
  else
    some (some (.int 0), h) := rfl
theorem e_Tp_isBetween (t : Nat) (v1 : Int32) (v2 : Int32) (h : mm_H) {fs : List Value} (hb : h t = some (.inr (9, fs))) : f_Tp_isBetween [.ref t, .int v1, .int v2] h =
  (mm_gi 9 6 h t).bind fun x1 =>
  if x1 = 1 then
    (mm_gi 9 7 h t).bind fun x2 =>
    if x2 < v1 then
      some (some (.int 0), h)
    else
      (mm_gi 9 7 h t).bind fun x3 =>
      if v2 < x3 then
        some (some (.int 0), h)
      else
        some (some (.int 1), h)
  else
    some (some (.int 0), h) := (mm_ga_is rfl).trans ((mm_gd_is hb).trans (e_Tp_isBetween_0 mm_fu t v1 v2 h))
set_option maxRecDepth 100000 in
theorem i_Tp_isBetween (l : Launch) : mm_Imp l yX9_isBetween cX9_isBetween 3 (some .boolean) 1 f_Tp_isBetween := mm_imp l (P := p_Tp_isBetween) mm_cls_ok mm_sys_ok (by decide) (mm_Pok_of (List.forall_mem_cons.mpr ⟨k_X9_32, (List.forall_mem_cons.mpr ⟨k_X9_35, (fun _ h => absurd h List.not_mem_nil)⟩)⟩) (fun _ h => absurd h List.not_mem_nil) (fun _ h => absurd h List.not_mem_nil) (fun _ h => absurd h List.not_mem_nil)) (by decide +kernel) rfl (cats := [1, 1, 1]) (fun as h r e => ⟨(mm_ga_inv e).1, (mm_gd_inv (mm_ga_inv e).2).1⟩) rfl (by decide)
theorem v_Tp_isBetween (l : Launch) {own : String} {i n0 : Nat} (hl : Cond.methodLink own i yX9_isBetween ∈ mm_tbl) (hn : 2 ≤ n0) : mm_cok l own n0 i (0, 2, 1, f_Tp_isBetween) := Or.inr (Or.inr ⟨rfl, yX9_isBetween, cX9_isBetween, 3, (some .boolean), 1, 9, TX9, 9, i_Tp_isBetween l, hn, by decide, by decide +kernel, rfl, fun _ _ _ e => (mm_gd_inv (mm_ga_inv e).2).2, hl, q_791, q_792, q_164, q_793⟩)
def p_Rd_takeOneOf : mm_P := ([(0, .aload_n 0, 1, 0), (1, .getfield 35, 3, 0), (4, .iload_n 1, 1, 0), (5, .iload_n 2, 1, 0), (6, .invokevirtual 102, 3, 0), (9, .ifCond .ne 9, 3, 0), (12, .aload_n 0, 1, 0), (13, .iconst 1, 1, 1), (14, .invokevirtual 83, 3, 0), (17, .ireturn, 1, 0), (18, .aload_n 0, 1, 0), (19, .aload_n 0, 1, 0), (20, .getfield 35, 3, 0), (23, .getfield 50, 3, 0), (26, .iload_n 1, 1, 0), (27, .isub, 1, 0), (28, .putfield 29, 3, 0), (31, .aload_n 0, 1, 0), (32, .getfield 35, 3, 0), (35, .invokevirtual 99, 3, 0), (38, .iconst 1, 1, 1), (39, .ireturn, 1, 0)], [(29, 6, 4, 0), (35, 6, 0, 4), (50, 9, 7, 0)], [(83, 0, 1, 1, f_Rd_wrong), (99, 0, 0, 0, f_Tp_readOn), (102, 0, 2, 1, f_Tp_isBetween)], [], [], [(0, [0, 1, 2])], [], 1)
def f_Rd_takeOneOf : mm_F := fun args h => mm_ga [1, 1, 1] args (mm_gd 6 args h (mm_run p_Rd_takeOneOf (mm_fu + 1) 0 args [] h))
set_option maxRecDepth 100000 in
theorem e_Rd_takeOneOf_0 (f : Nat) (t : Nat) (v1 : Int32) (v2 : Int32) (h : mm_H) : mm_run p_Rd_takeOneOf (f + 1) 0 [.ref t, .int v1, .int v2] [] h =
  (mm_gr 6 0 h t).bind fun r1 =>
  mm_ci (f_Tp_isBetween [.ref r1, .int v1, .int v2] h) fun x3 h2 =>
  if x3 = 0 then
    mm_ci (f_Rd_wrong [.ref t, .int 1] h2) fun x5 h4 =>
    if x5 = 0 ∨ x5 = 1 then some (some (.int x5), h4) else none
  else
    (mm_gr 6 0 h2 t).bind fun r6 =>
    (mm_gi 9 7 h2 r6).bind fun x7 =>
    (mm_pf 6 4 (.int (x7 - v1)) h2 t).bind fun h8 =>
    (mm_gr 6 0 h8 t).bind fun r9 =>
    mm_cv (f_Tp_readOn [.ref r9] h8) fun h10 =>
    some (some (.int 1), h10) := rfl
theorem e_Rd_takeOneOf (t : Nat) (v1 : Int32) (v2 : Int32) (h : mm_H) {fs : List Value} (hb : h t = some (.inr (6, fs))) : f_Rd_takeOneOf [.ref t, .int v1, .int v2] h =
  (mm_gr 6 0 h t).bind fun r1 =>
  mm_ci (f_Tp_isBetween [.ref r1, .int v1, .int v2] h) fun x3 h2 =>
  if x3 = 0 then
    mm_ci (f_Rd_wrong [.ref t, .int 1] h2) fun x5 h4 =>
    if x5 = 0 ∨ x5 = 1 then some (some (.int x5), h4) else none
  else
    (mm_gr 6 0 h2 t).bind fun r6 =>
    (mm_gi 9 7 h2 r6).bind fun x7 =>
    (mm_pf 6 4 (.int (x7 - v1)) h2 t).bind fun h8 =>
    (mm_gr 6 0 h8 t).bind fun r9 =>
    mm_cv (f_Tp_readOn [.ref r9] h8) fun h10 =>
    some (some (.int 1), h10) := (mm_ga_is rfl).trans ((mm_gd_is hb).trans (e_Rd_takeOneOf_0 mm_fu t v1 v2 h))
set_option maxRecDepth 100000 in
theorem i_Rd_takeOneOf (l : Launch) : mm_Imp l yX6_takeOneOf cX6_takeOneOf 3 (some .boolean) 3 f_Rd_takeOneOf := mm_imp l (P := p_Rd_takeOneOf) mm_cls_ok mm_sys_ok (by decide) (mm_Pok_of (List.forall_mem_cons.mpr ⟨k_X6_29, (List.forall_mem_cons.mpr ⟨k_X6_35, (List.forall_mem_cons.mpr ⟨k_X6_50, (fun _ h => absurd h List.not_mem_nil)⟩)⟩)⟩) (List.forall_mem_cons.mpr ⟨v_Rd_wrong l q_757 (by decide), (List.forall_mem_cons.mpr ⟨v_Tp_readOn l q_761 (by decide), (List.forall_mem_cons.mpr ⟨v_Tp_isBetween l q_790 (by decide), (fun _ h => absurd h List.not_mem_nil)⟩)⟩)⟩) (fun _ h => absurd h List.not_mem_nil) (fun _ h => absurd h List.not_mem_nil)) (by decide +kernel) rfl (cats := [1, 1, 1]) (fun as h r e => ⟨(mm_ga_inv e).1, (mm_gd_inv (mm_ga_inv e).2).1⟩) rfl (by decide)
theorem v_Rd_takeOneOf (l : Launch) {own : String} {i n0 : Nat} (hl : Cond.methodLink own i yX6_takeOneOf ∈ mm_tbl) (hn : 4 ≤ n0) : mm_cok l own n0 i (0, 2, 1, f_Rd_takeOneOf) := Or.inr (Or.inr ⟨rfl, yX6_takeOneOf, cX6_takeOneOf, 3, (some .boolean), 3, 6, TX6, 6, i_Rd_takeOneOf l, hn, by decide, by decide +kernel, rfl, fun _ _ _ e => (mm_gd_inv (mm_ga_inv e).2).2, hl, q_788, q_8, q_169, q_789⟩)
def p_Tp_isWord : mm_P := ([(0, .aload_n 0, 1, 0), (1, .getfield 32, 3, 0), (4, .iconst 1, 1, 1), (5, .if_icmp .ne 15, 3, 0), (8, .aload_n 0, 1, 0), (9, .getfield 35, 3, 0), (12, .iload_n 1, 1, 0), (13, .if_icmp .ne 7, 3, 0), (16, .iconst 1, 1, 1), (17, .goto 4, 3, 0), (20, .iconst 0, 1, 0), (21, .ireturn, 1, 0)], [(32, 9, 6, 0), (35, 9, 7, 0)], [], [], [], [(0, [0, 1])], [], 1)
def f_Tp_isWord : mm_F := fun args h => mm_ga [1, 1] args (mm_gd 9 args h (mm_run p_Tp_isWord (mm_fu + 1) 0 args [] h))
set_option maxRecDepth 100000 in
theorem e_Tp_isWord_0 (f : Nat) (t : Nat) (v1 : Int32) (h : mm_H) : mm_run p_Tp_isWord (f + 1) 0 [.ref t, .int v1] [] h =
  (mm_gi 9 6 h t).bind fun x1 =>
  if x1 = 1 then
    (mm_gi 9 7 h t).bind fun x2 =>
    if x2 = v1 then
      some (some (.int 1), h)
    else
      some (some (.int 0), h)
  else
    some (some (.int 0), h) := rfl
theorem e_Tp_isWord (t : Nat) (v1 : Int32) (h : mm_H) {fs : List Value} (hb : h t = some (.inr (9, fs))) : f_Tp_isWord [.ref t, .int v1] h =
  (mm_gi 9 6 h t).bind fun x1 =>
  if x1 = 1 then
    (mm_gi 9 7 h t).bind fun x2 =>
    if x2 = v1 then
      some (some (.int 1), h)
    else
      some (some (.int 0), h)
  else
    some (some (.int 0), h) := (mm_ga_is rfl).trans ((mm_gd_is hb).trans (e_Tp_isWord_0 mm_fu t v1 h))
set_option maxRecDepth 100000 in
theorem i_Tp_isWord (l : Launch) : mm_Imp l yX9_isWord cX9_isWord 2 (some .boolean) 1 f_Tp_isWord := mm_imp l (P := p_Tp_isWord) mm_cls_ok mm_sys_ok (by decide) (mm_Pok_of (List.forall_mem_cons.mpr ⟨k_X9_32, (List.forall_mem_cons.mpr ⟨k_X9_35, (fun _ h => absurd h List.not_mem_nil)⟩)⟩) (fun _ h => absurd h List.not_mem_nil) (fun _ h => absurd h List.not_mem_nil) (fun _ h => absurd h List.not_mem_nil)) (by decide +kernel) rfl (cats := [1, 1]) (fun as h r e => ⟨(mm_ga_inv e).1, (mm_gd_inv (mm_ga_inv e).2).1⟩) rfl (by decide)
theorem v_Tp_isWord (l : Launch) {own : String} {i n0 : Nat} (hl : Cond.methodLink own i yX9_isWord ∈ mm_tbl) (hn : 2 ≤ n0) : mm_cok l own n0 i (0, 1, 1, f_Tp_isWord) := Or.inr (Or.inr ⟨rfl, yX9_isWord, cX9_isWord, 2, (some .boolean), 1, 9, TX9, 9, i_Tp_isWord l, hn, by decide, by decide +kernel, rfl, fun _ _ _ e => (mm_gd_inv (mm_ga_inv e).2).2, hl, q_799, q_800, q_164, q_801⟩)
def p_Rd_takeWord : mm_P := ([(0, .aload_n 0, 1, 0), (1, .getfield 35, 3, 0), (4, .iload_n 1, 1, 0), (5, .invokevirtual 96, 3, 0), (8, .ifCond .ne 9, 3, 0), (11, .aload_n 0, 1, 0), (12, .iconst 1, 1, 1), (13, .invokevirtual 83, 3, 0), (16, .ireturn, 1, 0), (17, .aload_n 0, 1, 0), (18, .getfield 35, 3, 0), (21, .invokevirtual 99, 3, 0), (24, .iconst 1, 1, 1), (25, .ireturn, 1, 0)], [(35, 6, 0, 4)], [(83, 0, 1, 1, f_Rd_wrong), (96, 0, 1, 1, f_Tp_isWord), (99, 0, 0, 0, f_Tp_readOn)], [], [], [(0, [0, 1])], [], 1)
def f_Rd_takeWord : mm_F := fun args h => mm_ga [1, 1] args (mm_gd 6 args h (mm_run p_Rd_takeWord (mm_fu + 1) 0 args [] h))
set_option maxRecDepth 100000 in
theorem e_Rd_takeWord_0 (f : Nat) (t : Nat) (v1 : Int32) (h : mm_H) : mm_run p_Rd_takeWord (f + 1) 0 [.ref t, .int v1] [] h =
  (mm_gr 6 0 h t).bind fun r1 =>
  mm_ci (f_Tp_isWord [.ref r1, .int v1] h) fun x3 h2 =>
  if x3 = 0 then
    mm_ci (f_Rd_wrong [.ref t, .int 1] h2) fun x5 h4 =>
    if x5 = 0 ∨ x5 = 1 then some (some (.int x5), h4) else none
  else
    (mm_gr 6 0 h2 t).bind fun r6 =>
    mm_cv (f_Tp_readOn [.ref r6] h2) fun h7 =>
    some (some (.int 1), h7) := rfl
theorem e_Rd_takeWord (t : Nat) (v1 : Int32) (h : mm_H) {fs : List Value} (hb : h t = some (.inr (6, fs))) : f_Rd_takeWord [.ref t, .int v1] h =
  (mm_gr 6 0 h t).bind fun r1 =>
  mm_ci (f_Tp_isWord [.ref r1, .int v1] h) fun x3 h2 =>
  if x3 = 0 then
    mm_ci (f_Rd_wrong [.ref t, .int 1] h2) fun x5 h4 =>
    if x5 = 0 ∨ x5 = 1 then some (some (.int x5), h4) else none
  else
    (mm_gr 6 0 h2 t).bind fun r6 =>
    mm_cv (f_Tp_readOn [.ref r6] h2) fun h7 =>
    some (some (.int 1), h7) := (mm_ga_is rfl).trans ((mm_gd_is hb).trans (e_Rd_takeWord_0 mm_fu t v1 h))
set_option maxRecDepth 100000 in
theorem i_Rd_takeWord (l : Launch) : mm_Imp l yX6_takeWord cX6_takeWord 2 (some .boolean) 3 f_Rd_takeWord := mm_imp l (P := p_Rd_takeWord) mm_cls_ok mm_sys_ok (by decide) (mm_Pok_of (List.forall_mem_cons.mpr ⟨k_X6_35, (fun _ h => absurd h List.not_mem_nil)⟩) (List.forall_mem_cons.mpr ⟨v_Rd_wrong l q_757 (by decide), (List.forall_mem_cons.mpr ⟨v_Tp_isWord l q_798 (by decide), (List.forall_mem_cons.mpr ⟨v_Tp_readOn l q_761 (by decide), (fun _ h => absurd h List.not_mem_nil)⟩)⟩)⟩) (fun _ h => absurd h List.not_mem_nil) (fun _ h => absurd h List.not_mem_nil)) (by decide +kernel) rfl (cats := [1, 1]) (fun as h r e => ⟨(mm_ga_inv e).1, (mm_gd_inv (mm_ga_inv e).2).1⟩) rfl (by decide)
theorem v_Rd_takeWord (l : Launch) {own : String} {i n0 : Nat} (hl : Cond.methodLink own i yX6_takeWord ∈ mm_tbl) (hn : 4 ≤ n0) : mm_cok l own n0 i (0, 1, 1, f_Rd_takeWord) := Or.inr (Or.inr ⟨rfl, yX6_takeWord, cX6_takeWord, 2, (some .boolean), 3, 6, TX6, 6, i_Rd_takeWord l, hn, by decide, by decide +kernel, rfl, fun _ _ _ e => (mm_gd_inv (mm_ga_inv e).2).2, hl, q_796, q_9, q_169, q_797⟩)
def p_Rd_indexLine : mm_P := ([(0, .aload_n 0, 1, 0), (1, .getfield 12, 3, 0), (4, .getfield 118, 3, 0), (7, .istore_n 1, 1, 0), (8, .aload_n 0, 1, 0), (9, .getfield 12, 3, 0), (12, .getfield 121, 3, 0), (15, .ifCond .le 9, 3, 0), (18, .aload_n 0, 1, 0), (19, .iconst 1, 1, 1), (20, .invokevirtual 83, 3, 0), (23, .ireturn, 1, 0), (24, .iload_n 1, 1, 0), (25, .iconst 4, 1, 4), (26, .if_icmp .lt 9, 3, 0), (29, .aload_n 0, 1, 0), (30, .iconst 5, 1, 5), (31, .invokevirtual 83, 3, 0), (34, .ireturn, 1, 0), (35, .aload_n 0, 1, 0), (36, .getfield 35, 3, 0), (39, .invokevirtual 99, 3, 0), (42, .aload_n 0, 1, 0), (43, .getfield 35, 3, 0), (46, .invokevirtual 124, 3, 0), (49, .ifCond .ne 9, 3, 0), (52, .aload_n 0, 1, 0), (53, .iconst 1, 1, 1), (54, .invokevirtual 83, 3, 0), (57, .ireturn, 1, 0), (58, .aload_n 0, 1, 0), (59, .getfield 12, 3, 0), (62, .aload_n 0, 1, 0), (63, .getfield 35, 3, 0), (66, .getfield 127, 3, 0), (69, .invokevirtual 131, 3, 0), (72, .iconst (-1), 1, (-1)), (73, .if_icmp .eq 9, 3, 0), (76, .aload_n 0, 1, 0), (77, .iconst 3, 1, 3), (78, .invokevirtual 83, 3, 0), (81, .ireturn, 1, 0), (82, .aload_n 0, 1, 0), (83, .getfield 12, 3, 0), (86, .getfield 135, 3, 0), (89, .iload_n 1, 1, 0), (90, .aload_n 0, 1, 0), (91, .getfield 35, 3, 0), (94, .getfield 127, 3, 0), (97, .lastore, 1, 0), (98, .aload_n 0, 1, 0), (99, .getfield 35, 3, 0), (102, .invokevirtual 99, 3, 0), (105, .aload_n 0, 1, 0), (106, .bipush 18, 2, 18), (108, .bipush 21, 2, 21), (110, .invokevirtual 139, 3, 0), (113, .ifCond .ne 5, 3, 0), (116, .iconst 0, 1, 0), (117, .ireturn, 1, 0), (118, .aload_n 0, 1, 0), (119, .getfield 12, 3, 0), (122, .getfield 142, 3, 0), (125, .iload_n 1, 1, 0), (126, .aload_n 0, 1, 0), (127, .getfield 29, 3, 0), (130, .iastore, 1, 0), (131, .aload_n 0, 1, 0), (132, .iconst 3, 1, 3), (133, .invokevirtual 146, 3, 0), (136, .ifCond .eq 14, 3, 0), (139, .aload_n 0, 1, 0), (140, .bipush 25, 2, 25), (142, .bipush 27, 2, 27), (144, .invokevirtual 139, 3, 0), (147, .ifCond .ne 5, 3, 0), (150, .iconst 0, 1, 0), (151, .ireturn, 1, 0), (152, .aload_n 0, 1, 0), (153, .getfield 12, 3, 0), (156, .getfield 149, 3, 0), (159, .iload_n 1, 1, 0), (160, .aload_n 0, 1, 0), (161, .getfield 29, 3, 0), (164, .iastore, 1, 0), (165, .aload_n 0, 1, 0), (166, .getfield 12, 3, 0), (169, .dup, 1, 0), (170, .getfield 118, 3, 0), (173, .iconst 1, 1, 1), (174, .iadd, 1, 0), (175, .putfield 118, 3, 0), (178, .aload_n 0, 1, 0), (179, .invokevirtual 112, 3, 0), (182, .ireturn, 1, 0)], [(12, 6, 1, 2), (29, 6, 4, 0), (35, 6, 0, 4), (118, 4, 10, 0), (121, 4, 11, 0), (127, 9, 8, 3), (135, 4, 2, 4), (142, 4, 0, 4), (149, 4, 1, 4)], [(83, 0, 1, 1, f_Rd_wrong), (99, 0, 0, 0, f_Tp_readOn), (112, 0, 0, 1, f_Rd_takeMark), (124, 0, 0, 1, f_Tp_isName), (131, 0, 1, 1, f_Pl_named), (139, 0, 2, 1, f_Rd_takeOneOf), (146, 0, 1, 1, f_Rd_takeWord)], [], [], [(0, [0])], [], 1)
def f_Rd_indexLine : mm_F := fun args h => mm_ga [1] args (mm_gd 6 args h (mm_run p_Rd_indexLine (mm_fu + 1) 0 args [] h))
set_option maxRecDepth 100000 in
theorem e_Rd_indexLine_0 (f : Nat) (t : Nat) (h : mm_H) : mm_run p_Rd_indexLine (f + 1) 0 [.ref t] [] h =
  (mm_gr 6 1 h t).bind fun r1 =>
  (mm_gi 4 10 h r1).bind fun x2 =>
  (mm_gr 6 1 h t).bind fun r3 =>
  (mm_gi 4 11 h r3).bind fun x4 =>
  if (0 : Int32) < x4 then
    mm_ci (f_Rd_wrong [.ref t, .int 1] h) fun x6 h5 =>
    if x6 = 0 ∨ x6 = 1 then some (some (.int x6), h5) else none
  else
    if x2 < 4 then
      (mm_gr 6 0 h t).bind fun r7 =>
      mm_cv (f_Tp_readOn [.ref r7] h) fun h8 =>
      (mm_gr 6 0 h8 t).bind fun r9 =>
      mm_ci (f_Tp_isName [.ref r9] h8) fun x11 h10 =>
      if x11 = 0 then
        mm_ci (f_Rd_wrong [.ref t, .int 1] h10) fun x13 h12 =>
        if x13 = 0 ∨ x13 = 1 then some (some (.int x13), h12) else none
      else
        (mm_gr 6 1 h10 t).bind fun r14 =>
        (mm_gr 6 0 h10 t).bind fun r15 =>
        (mm_gl 9 8 h10 r15).bind fun l16 =>
        mm_ci (f_Pl_named [.ref r14, .long l16] h10) fun x18 h17 =>
        if x18 = (-1) then
          (mm_gr 6 1 h17 t).bind fun r19 =>
          (mm_gr 4 2 h17 r19).bind fun r20 =>
          (mm_gr 6 0 h17 t).bind fun r21 =>
          (mm_gl 9 8 h17 r21).bind fun l22 =>
          (mm_sl h17 r20 x2 l22).bind fun h23 =>
          (mm_gr 6 0 h23 t).bind fun r24 =>
          mm_cv (f_Tp_readOn [.ref r24] h23) fun h25 =>
          mm_ci (f_Rd_takeOneOf [.ref t, .int 18, .int 21] h25) fun x27 h26 =>
          if x27 = 0 then
            some (some (.int 0), h26)
          else
            (mm_gr 6 1 h26 t).bind fun r28 =>
            (mm_gr 4 0 h26 r28).bind fun r29 =>
            (mm_gi 6 4 h26 t).bind fun x30 =>
            (mm_si h26 r29 x2 x30).bind fun h31 =>
            mm_ci (f_Rd_takeWord [.ref t, .int 3] h31) fun x33 h32 =>
            if x33 = 0 then
              some (some (.int 0), h32)
            else
              mm_ci (f_Rd_takeOneOf [.ref t, .int 25, .int 27] h32) fun x35 h34 =>
              if x35 = 0 then
                some (some (.int 0), h34)
              else
                (mm_gr 6 1 h34 t).bind fun r36 =>
                (mm_gr 4 1 h34 r36).bind fun r37 =>
                (mm_gi 6 4 h34 t).bind fun x38 =>
                (mm_si h34 r37 x2 x38).bind fun h39 =>
                (mm_gr 6 1 h39 t).bind fun r40 =>
                (mm_gi 4 10 h39 r40).bind fun x41 =>
                (mm_pf 4 10 (.int (x41 + 1)) h39 r40).bind fun h42 =>
                mm_ci (f_Rd_takeMark [.ref t] h42) fun x44 h43 =>
                if x44 = 0 ∨ x44 = 1 then some (some (.int x44), h43) else none
        else
          mm_ci (f_Rd_wrong [.ref t, .int 3] h17) fun x46 h45 =>
          if x46 = 0 ∨ x46 = 1 then some (some (.int x46), h45) else none
    else
      mm_ci (f_Rd_wrong [.ref t, .int 5] h) fun x48 h47 =>
      if x48 = 0 ∨ x48 = 1 then some (some (.int x48), h47) else none := rfl
theorem e_Rd_indexLine (t : Nat) (h : mm_H) {fs : List Value} (hb : h t = some (.inr (6, fs))) : f_Rd_indexLine [.ref t] h =
  (mm_gr 6 1 h t).bind fun r1 =>
  (mm_gi 4 10 h r1).bind fun x2 =>
  (mm_gr 6 1 h t).bind fun r3 =>
  (mm_gi 4 11 h r3).bind fun x4 =>
  if (0 : Int32) < x4 then
    mm_ci (f_Rd_wrong [.ref t, .int 1] h) fun x6 h5 =>
    if x6 = 0 ∨ x6 = 1 then some (some (.int x6), h5) else none
  else
    if x2 < 4 then
      (mm_gr 6 0 h t).bind fun r7 =>
      mm_cv (f_Tp_readOn [.ref r7] h) fun h8 =>
      (mm_gr 6 0 h8 t).bind fun r9 =>
      mm_ci (f_Tp_isName [.ref r9] h8) fun x11 h10 =>
      if x11 = 0 then
        mm_ci (f_Rd_wrong [.ref t, .int 1] h10) fun x13 h12 =>
        if x13 = 0 ∨ x13 = 1 then some (some (.int x13), h12) else none
      else
        (mm_gr 6 1 h10 t).bind fun r14 =>
        (mm_gr 6 0 h10 t).bind fun r15 =>
        (mm_gl 9 8 h10 r15).bind fun l16 =>
        mm_ci (f_Pl_named [.ref r14, .long l16] h10) fun x18 h17 =>
        if x18 = (-1) then
          (mm_gr 6 1 h17 t).bind fun r19 =>
          (mm_gr 4 2 h17 r19).bind fun r20 =>
          (mm_gr 6 0 h17 t).bind fun r21 =>
          (mm_gl 9 8 h17 r21).bind fun l22 =>
          (mm_sl h17 r20 x2 l22).bind fun h23 =>
          (mm_gr 6 0 h23 t).bind fun r24 =>
          mm_cv (f_Tp_readOn [.ref r24] h23) fun h25 =>
          mm_ci (f_Rd_takeOneOf [.ref t, .int 18, .int 21] h25) fun x27 h26 =>
          if x27 = 0 then
            some (some (.int 0), h26)
          else
            (mm_gr 6 1 h26 t).bind fun r28 =>
            (mm_gr 4 0 h26 r28).bind fun r29 =>
            (mm_gi 6 4 h26 t).bind fun x30 =>
            (mm_si h26 r29 x2 x30).bind fun h31 =>
            mm_ci (f_Rd_takeWord [.ref t, .int 3] h31) fun x33 h32 =>
            if x33 = 0 then
              some (some (.int 0), h32)
            else
              mm_ci (f_Rd_takeOneOf [.ref t, .int 25, .int 27] h32) fun x35 h34 =>
              if x35 = 0 then
                some (some (.int 0), h34)
              else
                (mm_gr 6 1 h34 t).bind fun r36 =>
                (mm_gr 4 1 h34 r36).bind fun r37 =>
                (mm_gi 6 4 h34 t).bind fun x38 =>
                (mm_si h34 r37 x2 x38).bind fun h39 =>
                (mm_gr 6 1 h39 t).bind fun r40 =>
                (mm_gi 4 10 h39 r40).bind fun x41 =>
                (mm_pf 4 10 (.int (x41 + 1)) h39 r40).bind fun h42 =>
                mm_ci (f_Rd_takeMark [.ref t] h42) fun x44 h43 =>
                if x44 = 0 ∨ x44 = 1 then some (some (.int x44), h43) else none
        else
          mm_ci (f_Rd_wrong [.ref t, .int 3] h17) fun x46 h45 =>
          if x46 = 0 ∨ x46 = 1 then some (some (.int x46), h45) else none
    else
      mm_ci (f_Rd_wrong [.ref t, .int 5] h) fun x48 h47 =>
      if x48 = 0 ∨ x48 = 1 then some (some (.int x48), h47) else none := (mm_ga_is rfl).trans ((mm_gd_is hb).trans (e_Rd_indexLine_0 mm_fu t h))
set_option maxRecDepth 100000 in
theorem i_Rd_indexLine (l : Launch) : mm_Imp l yX6_indexLine cX6_indexLine 2 (some .boolean) 4 f_Rd_indexLine := mm_imp l (P := p_Rd_indexLine) mm_cls_ok mm_sys_ok (by decide) (mm_Pok_of (List.forall_mem_cons.mpr ⟨k_X6_12, (List.forall_mem_cons.mpr ⟨k_X6_29, (List.forall_mem_cons.mpr ⟨k_X6_35, (List.forall_mem_cons.mpr ⟨k_X6_118, (List.forall_mem_cons.mpr ⟨k_X6_121, (List.forall_mem_cons.mpr ⟨k_X6_127, (List.forall_mem_cons.mpr ⟨k_X6_135, (List.forall_mem_cons.mpr ⟨k_X6_142, (List.forall_mem_cons.mpr ⟨k_X6_149, (fun _ h => absurd h List.not_mem_nil)⟩)⟩)⟩)⟩)⟩)⟩)⟩)⟩)⟩) (List.forall_mem_cons.mpr ⟨v_Rd_wrong l q_757 (by decide), (List.forall_mem_cons.mpr ⟨v_Tp_readOn l q_761 (by decide), (List.forall_mem_cons.mpr ⟨v_Rd_takeMark l q_766 (by decide), (List.forall_mem_cons.mpr ⟨v_Tp_isName l q_778 (by decide), (List.forall_mem_cons.mpr ⟨v_Pl_named l q_782 (by decide), (List.forall_mem_cons.mpr ⟨v_Rd_takeOneOf l q_786 (by decide), (List.forall_mem_cons.mpr ⟨v_Rd_takeWord l q_794 (by decide), (fun _ h => absurd h List.not_mem_nil)⟩)⟩)⟩)⟩)⟩)⟩)⟩) (fun _ h => absurd h List.not_mem_nil) (fun _ h => absurd h List.not_mem_nil)) (by decide +kernel) rfl (cats := [1]) (fun as h r e => ⟨(mm_ga_inv e).1, (mm_gd_inv (mm_ga_inv e).2).1⟩) rfl (by decide)
theorem v_Rd_indexLine (l : Launch) {own : String} {i n0 : Nat} (hl : Cond.methodLink own i yX6_indexLine ∈ mm_tbl) (hn : 5 ≤ n0) : mm_cok l own n0 i (0, 0, 1, f_Rd_indexLine) := Or.inr (Or.inr ⟨rfl, yX6_indexLine, cX6_indexLine, 2, (some .boolean), 4, 6, TX6, 6, i_Rd_indexLine l, hn, by decide, by decide +kernel, rfl, fun _ _ _ e => (mm_gd_inv (mm_ga_inv e).2).2, hl, q_776, q_7, q_169, q_777⟩)
def p_Rd_rowLine : mm_P := ([(0, .aload_n 0, 1, 0), (1, .getfield 12, 3, 0), (4, .getfield 121, 3, 0), (7, .bipush 20, 2, 20), (9, .if_icmp .lt 9, 3, 0), (12, .aload_n 0, 1, 0), (13, .iconst 5, 1, 5), (14, .invokevirtual 83, 3, 0), (17, .ireturn, 1, 0), (18, .aload_n 0, 1, 0), (19, .getfield 35, 3, 0), (22, .invokevirtual 99, 3, 0), (25, .iconst 0, 1, 0), (26, .istore_n 1, 1, 0), (27, .iload_n 1, 1, 0), (28, .iconst 3, 1, 3), (29, .if_icmp .ge 80, 3, 0), (32, .aload_n 0, 1, 0), (33, .getfield 35, 3, 0), (36, .getfield 47, 3, 0), (39, .iconst 2, 1, 2), (40, .if_icmp .ne 27, 3, 0), (43, .aload_n 0, 1, 0), (44, .getfield 12, 3, 0), (47, .iload_n 1, 1, 0), (48, .aload_n 0, 1, 0), (49, .getfield 35, 3, 0), (52, .getfield 50, 3, 0), (55, .invokevirtual 152, 3, 0), (58, .ifCond .eq 9, 3, 0), (61, .aload_n 0, 1, 0), (62, .iconst 3, 1, 3), (63, .invokevirtual 83, 3, 0), (66, .ireturn, 1, 0), (67, .aload_n 0, 1, 0), (68, .iconst 0, 1, 0), (69, .sipush 999, 3, 999), (72, .invokevirtual 106, 3, 0), (75, .ifCond .ne 5, 3, 0), (78, .iconst 0, 1, 0), (79, .ireturn, 1, 0), (80, .aload_n 0, 1, 0), (81, .getfield 12, 3, 0), (84, .getfield 155, 3, 0), (87, .aload_n 0, 1, 0), (88, .getfield 12, 3, 0), (91, .getfield 121, 3, 0), (94, .iconst 3, 1, 3), (95, .imul, 1, 0), (96, .iload_n 1, 1, 0), (97, .iadd, 1, 0), (98, .aload_n 0, 1, 0), (99, .getfield 29, 3, 0), (102, .iastore, 1, 0), (103, .iinc 1 1, 3, 1), (106, .goto (-79), 3, 0), (109, .aload_n 0, 1, 0), (110, .getfield 12, 3, 0), (113, .dup, 1, 0), (114, .getfield 121, 3, 0), (117, .iconst 1, 1, 1), (118, .iadd, 1, 0), (119, .putfield 121, 3, 0), (122, .aload_n 0, 1, 0), (123, .invokevirtual 112, 3, 0), (126, .ireturn, 1, 0)], [(12, 6, 1, 2), (29, 6, 4, 0), (35, 6, 0, 4), (47, 9, 6, 0), (50, 9, 7, 0), (121, 4, 11, 0), (155, 4, 3, 4)], [(83, 0, 1, 1, f_Rd_wrong), (99, 0, 0, 0, f_Tp_readOn), (106, 0, 2, 1, f_Rd_takeNumber), (112, 0, 0, 1, f_Rd_takeMark), (152, 0, 2, 1, f_Pl_onceHas)], [], [], [(0, [0]), (27, [0, 1])], [], 1)
def f_Rd_rowLine : mm_F := fun args h => mm_ga [1] args (mm_gd 6 args h (mm_run p_Rd_rowLine (mm_fu + 1) 0 args [] h))
set_option maxRecDepth 100000 in
theorem e_Rd_rowLine_0 (f : Nat) (t : Nat) (h : mm_H) : mm_run p_Rd_rowLine (f + 1) 0 [.ref t] [] h =
  (mm_gr 6 1 h t).bind fun r1 =>
  (mm_gi 4 11 h r1).bind fun x2 =>
  if x2 < 20 then
    (mm_gr 6 0 h t).bind fun r3 =>
    mm_cv (f_Tp_readOn [.ref r3] h) fun h4 =>
    mm_run p_Rd_rowLine f 27 [.ref t, .int 0] [] h4
  else
    mm_ci (f_Rd_wrong [.ref t, .int 5] h) fun x6 h5 =>
    if x6 = 0 ∨ x6 = 1 then some (some (.int x6), h5) else none := rfl
theorem e_Rd_rowLine (t : Nat) (h : mm_H) {fs : List Value} (hb : h t = some (.inr (6, fs))) : f_Rd_rowLine [.ref t] h =
  (mm_gr 6 1 h t).bind fun r1 =>
  (mm_gi 4 11 h r1).bind fun x2 =>
  if x2 < 20 then
    (mm_gr 6 0 h t).bind fun r3 =>
    mm_cv (f_Tp_readOn [.ref r3] h) fun h4 =>
    mm_run p_Rd_rowLine mm_fu 27 [.ref t, .int 0] [] h4
  else
    mm_ci (f_Rd_wrong [.ref t, .int 5] h) fun x6 h5 =>
    if x6 = 0 ∨ x6 = 1 then some (some (.int x6), h5) else none := (mm_ga_is rfl).trans ((mm_gd_is hb).trans (e_Rd_rowLine_0 mm_fu t h))
set_option maxRecDepth 100000 in
theorem e_Rd_rowLine_27 (f : Nat) (t : Nat) (v1 : Int32) (h : mm_H) : mm_run p_Rd_rowLine (f + 1) 27 [.ref t, .int v1] [] h =
  if v1 < 3 then
    (mm_gr 6 0 h t).bind fun r1 =>
    (mm_gi 9 6 h r1).bind fun x2 =>
    if x2 = 2 then
      (mm_gr 6 1 h t).bind fun r3 =>
      (mm_gr 6 0 h t).bind fun r4 =>
      (mm_gi 9 7 h r4).bind fun x5 =>
      mm_ci (f_Pl_onceHas [.ref r3, .int v1, .int x5] h) fun x7 h6 =>
      if x7 = 0 then
        mm_ci (f_Rd_takeNumber [.ref t, .int 0, .int 999] h6) fun x9 h8 =>
        if x9 = 0 then
          some (some (.int 0), h8)
        else
          (mm_gr 6 1 h8 t).bind fun r10 =>
          (mm_gr 4 3 h8 r10).bind fun r11 =>
          (mm_gr 6 1 h8 t).bind fun r12 =>
          (mm_gi 4 11 h8 r12).bind fun x13 =>
          (mm_gi 6 4 h8 t).bind fun x14 =>
          (mm_si h8 r11 ((x13 * 3) + v1) x14).bind fun h15 =>
          mm_run p_Rd_rowLine f 27 [.ref t, .int (v1 + 1)] [] h15
      else
        mm_ci (f_Rd_wrong [.ref t, .int 3] h6) fun x17 h16 =>
        if x17 = 0 ∨ x17 = 1 then some (some (.int x17), h16) else none
    else
      mm_ci (f_Rd_takeNumber [.ref t, .int 0, .int 999] h) fun x19 h18 =>
      if x19 = 0 then
        some (some (.int 0), h18)
      else
        (mm_gr 6 1 h18 t).bind fun r20 =>
        (mm_gr 4 3 h18 r20).bind fun r21 =>
        (mm_gr 6 1 h18 t).bind fun r22 =>
        (mm_gi 4 11 h18 r22).bind fun x23 =>
        (mm_gi 6 4 h18 t).bind fun x24 =>
        (mm_si h18 r21 ((x23 * 3) + v1) x24).bind fun h25 =>
        mm_run p_Rd_rowLine f 27 [.ref t, .int (v1 + 1)] [] h25
  else
    (mm_gr 6 1 h t).bind fun r26 =>
    (mm_gi 4 11 h r26).bind fun x27 =>
    (mm_pf 4 11 (.int (x27 + 1)) h r26).bind fun h28 =>
    mm_ci (f_Rd_takeMark [.ref t] h28) fun x30 h29 =>
    if x30 = 0 ∨ x30 = 1 then some (some (.int x30), h29) else none := rfl
set_option maxRecDepth 100000 in
theorem i_Rd_rowLine (l : Launch) : mm_Imp l yX6_rowLine cX6_rowLine 2 (some .boolean) 4 f_Rd_rowLine := mm_imp l (P := p_Rd_rowLine) mm_cls_ok mm_sys_ok (by decide) (mm_Pok_of (List.forall_mem_cons.mpr ⟨k_X6_12, (List.forall_mem_cons.mpr ⟨k_X6_29, (List.forall_mem_cons.mpr ⟨k_X6_35, (List.forall_mem_cons.mpr ⟨k_X6_47, (List.forall_mem_cons.mpr ⟨k_X6_50, (List.forall_mem_cons.mpr ⟨k_X6_121, (List.forall_mem_cons.mpr ⟨k_X6_155, (fun _ h => absurd h List.not_mem_nil)⟩)⟩)⟩)⟩)⟩)⟩)⟩) (List.forall_mem_cons.mpr ⟨v_Rd_wrong l q_757 (by decide), (List.forall_mem_cons.mpr ⟨v_Tp_readOn l q_761 (by decide), (List.forall_mem_cons.mpr ⟨v_Rd_takeNumber l q_762 (by decide), (List.forall_mem_cons.mpr ⟨v_Rd_takeMark l q_766 (by decide), (List.forall_mem_cons.mpr ⟨v_Pl_onceHas l q_806 (by decide), (fun _ h => absurd h List.not_mem_nil)⟩)⟩)⟩)⟩)⟩) (fun _ h => absurd h List.not_mem_nil) (fun _ h => absurd h List.not_mem_nil)) (by decide +kernel) rfl (cats := [1]) (fun as h r e => ⟨(mm_ga_inv e).1, (mm_gd_inv (mm_ga_inv e).2).1⟩) rfl (by decide)
theorem v_Rd_rowLine (l : Launch) {own : String} {i n0 : Nat} (hl : Cond.methodLink own i yX6_rowLine ∈ mm_tbl) (hn : 5 ≤ n0) : mm_cok l own n0 i (0, 0, 1, f_Rd_rowLine) := Or.inr (Or.inr ⟨rfl, yX6_rowLine, cX6_rowLine, 2, (some .boolean), 4, 6, TX6, 6, i_Rd_rowLine l, hn, by decide, by decide +kernel, rfl, fun _ _ _ e => (mm_gd_inv (mm_ga_inv e).2).2, hl, q_804, q_10, q_169, q_805⟩)
def p_Rd_pointLine : mm_P := ([(0, .aload_n 0, 1, 0), (1, .getfield 12, 3, 0), (4, .getfield 158, 3, 0), (7, .istore_n 1, 1, 0), (8, .iload_n 1, 1, 0), (9, .bipush 8, 2, 8), (11, .if_icmp .lt 9, 3, 0), (14, .aload_n 0, 1, 0), (15, .iconst 5, 1, 5), (16, .invokevirtual 83, 3, 0), (19, .ireturn, 1, 0), (20, .aload_n 0, 1, 0), (21, .getfield 35, 3, 0), (24, .invokevirtual 99, 3, 0), (27, .aload_n 0, 1, 0), (28, .bipush 22, 2, 22), (30, .bipush 24, 2, 24), (32, .invokevirtual 139, 3, 0), (35, .ifCond .ne 5, 3, 0), (38, .iconst 0, 1, 0), (39, .ireturn, 1, 0), (40, .aload_n 0, 1, 0), (41, .getfield 12, 3, 0), (44, .getfield 161, 3, 0), (47, .iload_n 1, 1, 0), (48, .aload_n 0, 1, 0), (49, .getfield 29, 3, 0), (52, .iastore, 1, 0), (53, .aload_n 0, 1, 0), (54, .bipush 6, 2, 6), (56, .invokevirtual 146, 3, 0), (59, .ifCond .ne 5, 3, 0), (62, .iconst 0, 1, 0), (63, .ireturn, 1, 0), (64, .aload_n 0, 1, 0), (65, .getfield 35, 3, 0), (68, .getfield 47, 3, 0), (71, .iconst 2, 1, 2), (72, .if_icmp .ne 27, 3, 0), (75, .aload_n 0, 1, 0), (76, .getfield 12, 3, 0), (79, .iconst 0, 1, 0), (80, .aload_n 0, 1, 0), (81, .getfield 35, 3, 0), (84, .getfield 50, 3, 0), (87, .invokevirtual 163, 3, 0), (90, .ifCond .ne 9, 3, 0), (93, .aload_n 0, 1, 0), (94, .iconst 2, 1, 2), (95, .invokevirtual 83, 3, 0), (98, .ireturn, 1, 0), (99, .aload_n 0, 1, 0), (100, .iconst 0, 1, 0), (101, .sipush 999, 3, 999), (104, .invokevirtual 106, 3, 0), (107, .ifCond .ne 5, 3, 0), (110, .iconst 0, 1, 0), (111, .ireturn, 1, 0), (112, .aload_n 0, 1, 0), (113, .getfield 12, 3, 0), (116, .getfield 166, 3, 0), (119, .iload_n 1, 1, 0), (120, .aload_n 0, 1, 0), (121, .getfield 29, 3, 0), (124, .iastore, 1, 0), (125, .aload_n 0, 1, 0), (126, .getfield 12, 3, 0), (129, .dup, 1, 0), (130, .getfield 158, 3, 0), (133, .iconst 1, 1, 1), (134, .iadd, 1, 0), (135, .putfield 158, 3, 0), (138, .aload_n 0, 1, 0), (139, .invokevirtual 112, 3, 0), (142, .ireturn, 1, 0)], [(12, 6, 1, 2), (29, 6, 4, 0), (35, 6, 0, 4), (47, 9, 6, 0), (50, 9, 7, 0), (158, 4, 12, 0), (161, 4, 4, 4), (166, 4, 5, 4)], [(83, 0, 1, 1, f_Rd_wrong), (99, 0, 0, 0, f_Tp_readOn), (106, 0, 2, 1, f_Rd_takeNumber), (112, 0, 0, 1, f_Rd_takeMark), (139, 0, 2, 1, f_Rd_takeOneOf), (146, 0, 1, 1, f_Rd_takeWord), (163, 0, 2, 1, f_Pl_has)], [], [], [(0, [0])], [], 1)
def f_Rd_pointLine : mm_F := fun args h => mm_ga [1] args (mm_gd 6 args h (mm_run p_Rd_pointLine (mm_fu + 1) 0 args [] h))
set_option maxRecDepth 100000 in
theorem e_Rd_pointLine_0 (f : Nat) (t : Nat) (h : mm_H) : mm_run p_Rd_pointLine (f + 1) 0 [.ref t] [] h =
  (mm_gr 6 1 h t).bind fun r1 =>
  (mm_gi 4 12 h r1).bind fun x2 =>
  if x2 < 8 then
    (mm_gr 6 0 h t).bind fun r3 =>
    mm_cv (f_Tp_readOn [.ref r3] h) fun h4 =>
    mm_ci (f_Rd_takeOneOf [.ref t, .int 22, .int 24] h4) fun x6 h5 =>
    if x6 = 0 then
      some (some (.int 0), h5)
    else
      (mm_gr 6 1 h5 t).bind fun r7 =>
      (mm_gr 4 4 h5 r7).bind fun r8 =>
      (mm_gi 6 4 h5 t).bind fun x9 =>
      (mm_si h5 r8 x2 x9).bind fun h10 =>
      mm_ci (f_Rd_takeWord [.ref t, .int 6] h10) fun x12 h11 =>
      if x12 = 0 then
        some (some (.int 0), h11)
      else
        (mm_gr 6 0 h11 t).bind fun r13 =>
        (mm_gi 9 6 h11 r13).bind fun x14 =>
        if x14 = 2 then
          (mm_gr 6 1 h11 t).bind fun r15 =>
          (mm_gr 6 0 h11 t).bind fun r16 =>
          (mm_gi 9 7 h11 r16).bind fun x17 =>
          mm_ci (f_Pl_has [.ref r15, .int 0, .int x17] h11) fun x19 h18 =>
          if x19 = 0 then
            mm_ci (f_Rd_wrong [.ref t, .int 2] h18) fun x21 h20 =>
            if x21 = 0 ∨ x21 = 1 then some (some (.int x21), h20) else none
          else
            mm_ci (f_Rd_takeNumber [.ref t, .int 0, .int 999] h18) fun x23 h22 =>
            if x23 = 0 then
              some (some (.int 0), h22)
            else
              (mm_gr 6 1 h22 t).bind fun r24 =>
              (mm_gr 4 5 h22 r24).bind fun r25 =>
              (mm_gi 6 4 h22 t).bind fun x26 =>
              (mm_si h22 r25 x2 x26).bind fun h27 =>
              (mm_gr 6 1 h27 t).bind fun r28 =>
              (mm_gi 4 12 h27 r28).bind fun x29 =>
              (mm_pf 4 12 (.int (x29 + 1)) h27 r28).bind fun h30 =>
              mm_ci (f_Rd_takeMark [.ref t] h30) fun x32 h31 =>
              if x32 = 0 ∨ x32 = 1 then some (some (.int x32), h31) else none
        else
          mm_ci (f_Rd_takeNumber [.ref t, .int 0, .int 999] h11) fun x34 h33 =>
          if x34 = 0 then
            some (some (.int 0), h33)
          else
            (mm_gr 6 1 h33 t).bind fun r35 =>
            (mm_gr 4 5 h33 r35).bind fun r36 =>
            (mm_gi 6 4 h33 t).bind fun x37 =>
            (mm_si h33 r36 x2 x37).bind fun h38 =>
            (mm_gr 6 1 h38 t).bind fun r39 =>
            (mm_gi 4 12 h38 r39).bind fun x40 =>
            (mm_pf 4 12 (.int (x40 + 1)) h38 r39).bind fun h41 =>
            mm_ci (f_Rd_takeMark [.ref t] h41) fun x43 h42 =>
            if x43 = 0 ∨ x43 = 1 then some (some (.int x43), h42) else none
  else
    mm_ci (f_Rd_wrong [.ref t, .int 5] h) fun x45 h44 =>
    if x45 = 0 ∨ x45 = 1 then some (some (.int x45), h44) else none := rfl
theorem e_Rd_pointLine (t : Nat) (h : mm_H) {fs : List Value} (hb : h t = some (.inr (6, fs))) : f_Rd_pointLine [.ref t] h =
  (mm_gr 6 1 h t).bind fun r1 =>
  (mm_gi 4 12 h r1).bind fun x2 =>
  if x2 < 8 then
    (mm_gr 6 0 h t).bind fun r3 =>
    mm_cv (f_Tp_readOn [.ref r3] h) fun h4 =>
    mm_ci (f_Rd_takeOneOf [.ref t, .int 22, .int 24] h4) fun x6 h5 =>
    if x6 = 0 then
      some (some (.int 0), h5)
    else
      (mm_gr 6 1 h5 t).bind fun r7 =>
      (mm_gr 4 4 h5 r7).bind fun r8 =>
      (mm_gi 6 4 h5 t).bind fun x9 =>
      (mm_si h5 r8 x2 x9).bind fun h10 =>
      mm_ci (f_Rd_takeWord [.ref t, .int 6] h10) fun x12 h11 =>
      if x12 = 0 then
        some (some (.int 0), h11)
      else
        (mm_gr 6 0 h11 t).bind fun r13 =>
        (mm_gi 9 6 h11 r13).bind fun x14 =>
        if x14 = 2 then
          (mm_gr 6 1 h11 t).bind fun r15 =>
          (mm_gr 6 0 h11 t).bind fun r16 =>
          (mm_gi 9 7 h11 r16).bind fun x17 =>
          mm_ci (f_Pl_has [.ref r15, .int 0, .int x17] h11) fun x19 h18 =>
          if x19 = 0 then
            mm_ci (f_Rd_wrong [.ref t, .int 2] h18) fun x21 h20 =>
            if x21 = 0 ∨ x21 = 1 then some (some (.int x21), h20) else none
          else
            mm_ci (f_Rd_takeNumber [.ref t, .int 0, .int 999] h18) fun x23 h22 =>
            if x23 = 0 then
              some (some (.int 0), h22)
            else
              (mm_gr 6 1 h22 t).bind fun r24 =>
              (mm_gr 4 5 h22 r24).bind fun r25 =>
              (mm_gi 6 4 h22 t).bind fun x26 =>
              (mm_si h22 r25 x2 x26).bind fun h27 =>
              (mm_gr 6 1 h27 t).bind fun r28 =>
              (mm_gi 4 12 h27 r28).bind fun x29 =>
              (mm_pf 4 12 (.int (x29 + 1)) h27 r28).bind fun h30 =>
              mm_ci (f_Rd_takeMark [.ref t] h30) fun x32 h31 =>
              if x32 = 0 ∨ x32 = 1 then some (some (.int x32), h31) else none
        else
          mm_ci (f_Rd_takeNumber [.ref t, .int 0, .int 999] h11) fun x34 h33 =>
          if x34 = 0 then
            some (some (.int 0), h33)
          else
            (mm_gr 6 1 h33 t).bind fun r35 =>
            (mm_gr 4 5 h33 r35).bind fun r36 =>
            (mm_gi 6 4 h33 t).bind fun x37 =>
            (mm_si h33 r36 x2 x37).bind fun h38 =>
            (mm_gr 6 1 h38 t).bind fun r39 =>
            (mm_gi 4 12 h38 r39).bind fun x40 =>
            (mm_pf 4 12 (.int (x40 + 1)) h38 r39).bind fun h41 =>
            mm_ci (f_Rd_takeMark [.ref t] h41) fun x43 h42 =>
            if x43 = 0 ∨ x43 = 1 then some (some (.int x43), h42) else none
  else
    mm_ci (f_Rd_wrong [.ref t, .int 5] h) fun x45 h44 =>
    if x45 = 0 ∨ x45 = 1 then some (some (.int x45), h44) else none := (mm_ga_is rfl).trans ((mm_gd_is hb).trans (e_Rd_pointLine_0 mm_fu t h))
set_option maxRecDepth 100000 in
theorem i_Rd_pointLine (l : Launch) : mm_Imp l yX6_pointLine cX6_pointLine 2 (some .boolean) 4 f_Rd_pointLine := mm_imp l (P := p_Rd_pointLine) mm_cls_ok mm_sys_ok (by decide) (mm_Pok_of (List.forall_mem_cons.mpr ⟨k_X6_12, (List.forall_mem_cons.mpr ⟨k_X6_29, (List.forall_mem_cons.mpr ⟨k_X6_35, (List.forall_mem_cons.mpr ⟨k_X6_47, (List.forall_mem_cons.mpr ⟨k_X6_50, (List.forall_mem_cons.mpr ⟨k_X6_158, (List.forall_mem_cons.mpr ⟨k_X6_161, (List.forall_mem_cons.mpr ⟨k_X6_166, (fun _ h => absurd h List.not_mem_nil)⟩)⟩)⟩)⟩)⟩)⟩)⟩)⟩) (List.forall_mem_cons.mpr ⟨v_Rd_wrong l q_757 (by decide), (List.forall_mem_cons.mpr ⟨v_Tp_readOn l q_761 (by decide), (List.forall_mem_cons.mpr ⟨v_Rd_takeNumber l q_762 (by decide), (List.forall_mem_cons.mpr ⟨v_Rd_takeMark l q_766 (by decide), (List.forall_mem_cons.mpr ⟨v_Rd_takeOneOf l q_786 (by decide), (List.forall_mem_cons.mpr ⟨v_Rd_takeWord l q_794 (by decide), (List.forall_mem_cons.mpr ⟨v_Pl_has l q_818 (by decide), (fun _ h => absurd h List.not_mem_nil)⟩)⟩)⟩)⟩)⟩)⟩)⟩) (fun _ h => absurd h List.not_mem_nil) (fun _ h => absurd h List.not_mem_nil)) (by decide +kernel) rfl (cats := [1]) (fun as h r e => ⟨(mm_ga_inv e).1, (mm_gd_inv (mm_ga_inv e).2).1⟩) rfl (by decide)
theorem v_Rd_pointLine (l : Launch) {own : String} {i n0 : Nat} (hl : Cond.methodLink own i yX6_pointLine ∈ mm_tbl) (hn : 5 ≤ n0) : mm_cok l own n0 i (0, 0, 1, f_Rd_pointLine) := Or.inr (Or.inr ⟨rfl, yX6_pointLine, cX6_pointLine, 2, (some .boolean), 4, 6, TX6, 6, i_Rd_pointLine l, hn, by decide, by decide +kernel, rfl, fun _ _ _ e => (mm_gd_inv (mm_ga_inv e).2).2, hl, q_816, q_11, q_169, q_817⟩)
def p_Rd_startsLimit : mm_P := ([(0, .aload_n 0, 1, 0), (1, .getfield 35, 3, 0), (4, .bipush 25, 2, 25), (6, .bipush 27, 2, 27), (8, .invokevirtual 102, 3, 0), (11, .ifCond .ne 15, 3, 0), (14, .aload_n 0, 1, 0), (15, .getfield 35, 3, 0), (18, .bipush 32, 2, 32), (20, .invokevirtual 96, 3, 0), (23, .ifCond .eq 5, 3, 0), (26, .iconst 1, 1, 1), (27, .ireturn, 1, 0), (28, .iload_n 1, 1, 0), (29, .ifCond .ne 21, 3, 0), (32, .aload_n 0, 1, 0), (33, .getfield 35, 3, 0), (36, .bipush 33, 2, 33), (38, .bipush 34, 2, 34), (40, .invokevirtual 102, 3, 0), (43, .ifCond .eq 7, 3, 0), (46, .iconst 1, 1, 1), (47, .goto 4, 3, 0), (50, .iconst 0, 1, 0), (51, .ireturn, 1, 0)], [(35, 6, 0, 4)], [(96, 0, 1, 1, f_Tp_isWord), (102, 0, 2, 1, f_Tp_isBetween)], [], [], [(0, [0, 1])], [], 1)
def f_Rd_startsLimit : mm_F := fun args h => mm_ga [1, 1] args (mm_gd 6 args h (mm_run p_Rd_startsLimit (mm_fu + 1) 0 args [] h))
set_option maxRecDepth 100000 in
theorem e_Rd_startsLimit_0 (f : Nat) (t : Nat) (v1 : Int32) (h : mm_H) : mm_run p_Rd_startsLimit (f + 1) 0 [.ref t, .int v1] [] h =
  (mm_gr 6 0 h t).bind fun r1 =>
  mm_ci (f_Tp_isBetween [.ref r1, .int 25, .int 27] h) fun x3 h2 =>
  if x3 = 0 then
    (mm_gr 6 0 h2 t).bind fun r4 =>
    mm_ci (f_Tp_isWord [.ref r4, .int 32] h2) fun x6 h5 =>
    if x6 = 0 then
      if v1 = 0 then
        (mm_gr 6 0 h5 t).bind fun r7 =>
        mm_ci (f_Tp_isBetween [.ref r7, .int 33, .int 34] h5) fun x9 h8 =>
        if x9 = 0 then
          some (some (.int 0), h8)
        else
          some (some (.int 1), h8)
      else
        some (some (.int 0), h5)
    else
      some (some (.int 1), h5)
  else
    some (some (.int 1), h2) := rfl
theorem e_Rd_startsLimit (t : Nat) (v1 : Int32) (h : mm_H) {fs : List Value} (hb : h t = some (.inr (6, fs))) : f_Rd_startsLimit [.ref t, .int v1] h =
  (mm_gr 6 0 h t).bind fun r1 =>
  mm_ci (f_Tp_isBetween [.ref r1, .int 25, .int 27] h) fun x3 h2 =>
  if x3 = 0 then
    (mm_gr 6 0 h2 t).bind fun r4 =>
    mm_ci (f_Tp_isWord [.ref r4, .int 32] h2) fun x6 h5 =>
    if x6 = 0 then
      if v1 = 0 then
        (mm_gr 6 0 h5 t).bind fun r7 =>
        mm_ci (f_Tp_isBetween [.ref r7, .int 33, .int 34] h5) fun x9 h8 =>
        if x9 = 0 then
          some (some (.int 0), h8)
        else
          some (some (.int 1), h8)
      else
        some (some (.int 0), h5)
    else
      some (some (.int 1), h5)
  else
    some (some (.int 1), h2) := (mm_ga_is rfl).trans ((mm_gd_is hb).trans (e_Rd_startsLimit_0 mm_fu t v1 h))
set_option maxRecDepth 100000 in
theorem i_Rd_startsLimit (l : Launch) : mm_Imp l yX6_startsLimit cX6_startsLimit 2 (some .boolean) 2 f_Rd_startsLimit := mm_imp l (P := p_Rd_startsLimit) mm_cls_ok mm_sys_ok (by decide) (mm_Pok_of (List.forall_mem_cons.mpr ⟨k_X6_35, (fun _ h => absurd h List.not_mem_nil)⟩) (List.forall_mem_cons.mpr ⟨v_Tp_isWord l q_798 (by decide), (List.forall_mem_cons.mpr ⟨v_Tp_isBetween l q_790 (by decide), (fun _ h => absurd h List.not_mem_nil)⟩)⟩) (fun _ h => absurd h List.not_mem_nil) (fun _ h => absurd h List.not_mem_nil)) (by decide +kernel) rfl (cats := [1, 1]) (fun as h r e => ⟨(mm_ga_inv e).1, (mm_gd_inv (mm_ga_inv e).2).1⟩) rfl (by decide)
theorem v_Rd_startsLimit (l : Launch) {own : String} {i n0 : Nat} (hl : Cond.methodLink own i yX6_startsLimit ∈ mm_tbl) (hn : 3 ≤ n0) : mm_cok l own n0 i (0, 1, 1, f_Rd_startsLimit) := Or.inr (Or.inr ⟨rfl, yX6_startsLimit, cX6_startsLimit, 2, (some .boolean), 2, 6, TX6, 6, i_Rd_startsLimit l, hn, by decide, by decide +kernel, rfl, fun _ _ _ e => (mm_gd_inv (mm_ga_inv e).2).2, hl, q_829, q_14, q_169, q_830⟩)
def p_Rd_openLimit : mm_P := ([(0, .aload_n 0, 1, 0), (1, .getfield 35, 3, 0), (4, .bipush 35, 2, 35), (6, .invokevirtual 96, 3, 0), (9, .istore 4, 2, 0), (11, .iload 4, 2, 0), (13, .ifCond .ne 17, 3, 0), (16, .aload_n 0, 1, 0), (17, .iload_n 2, 1, 0), (18, .invokevirtual 185, 3, 0), (21, .ifCond .ne 9, 3, 0), (24, .aload_n 0, 1, 0), (25, .iconst 1, 1, 1), (26, .invokevirtual 83, 3, 0), (29, .ireturn, 1, 0), (30, .aload_n 1, 1, 0), (31, .getfield 173, 3, 0), (34, .istore 5, 2, 0), (36, .iload 5, 2, 0), (38, .bipush 12, 2, 12), (40, .if_icmp .lt 9, 3, 0), (43, .aload_n 0, 1, 0), (44, .iconst 5, 1, 5), (45, .invokevirtual 83, 3, 0), (48, .ireturn, 1, 0), (49, .iload 4, 2, 0), (51, .ifCond .eq 24, 3, 0), (54, .aload_n 0, 1, 0), (55, .getfield 35, 3, 0), (58, .invokevirtual 99, 3, 0), (61, .aload_n 0, 1, 0), (62, .iload_n 2, 1, 0), (63, .invokevirtual 185, 3, 0), (66, .ifCond .ne 9, 3, 0), (69, .aload_n 0, 1, 0), (70, .iconst 1, 1, 1), (71, .invokevirtual 83, 3, 0), (74, .ireturn, 1, 0), (75, .aload_n 1, 1, 0), (76, .getfield 189, 3, 0), (79, .iload 5, 2, 0), (81, .iload 4, 2, 0), (83, .bastore, 1, 0), (84, .aload_n 1, 1, 0), (85, .getfield 193, 3, 0), (88, .iload 5, 2, 0), (90, .iload_n 3, 1, 0), (91, .bastore, 1, 0), (92, .aload_n 1, 1, 0), (93, .dup, 1, 0), (94, .getfield 173, 3, 0), (97, .iconst 1, 1, 1), (98, .iadd, 1, 0), (99, .putfield 173, 3, 0), (102, .iconst 1, 1, 1), (103, .ireturn, 1, 0)], [(35, 6, 0, 4), (173, 10, 6, 0), (189, 10, 4, 4), (193, 10, 5, 4)], [(83, 0, 1, 1, f_Rd_wrong), (96, 0, 1, 1, f_Tp_isWord), (99, 0, 0, 0, f_Tp_readOn), (185, 0, 1, 1, f_Rd_startsLimit)], [], [], [(0, [0, 1, 2, 3]), (30, [0, 1, 2, 3, 4])], [], 1)
def f_Rd_openLimit : mm_F := fun args h => mm_ga [1, 1, 1, 1] args (mm_gd 6 args h (mm_run p_Rd_openLimit (mm_fu + 1) 0 args [] h))
set_option maxRecDepth 100000 in
theorem e_Rd_openLimit_0 (f : Nat) (t : Nat) (v1 : Nat) (v2 : Int32) (v3 : Int32) (h : mm_H) : mm_run p_Rd_openLimit (f + 1) 0 [.ref t, .ref v1, .int v2, .int v3] [] h =
  (mm_gr 6 0 h t).bind fun r1 =>
  mm_ci (f_Tp_isWord [.ref r1, .int 35] h) fun x3 h2 =>
  if x3 = 0 then
    mm_ci (f_Rd_startsLimit [.ref t, .int v2] h2) fun x5 h4 =>
    if x5 = 0 then
      mm_ci (f_Rd_wrong [.ref t, .int 1] h4) fun x7 h6 =>
      if x7 = 0 ∨ x7 = 1 then some (some (.int x7), h6) else none
    else
      mm_run p_Rd_openLimit f 30 [.ref t, .ref v1, .int v2, .int v3, .int x3] [] h4
  else
    mm_run p_Rd_openLimit f 30 [.ref t, .ref v1, .int v2, .int v3, .int x3] [] h2 := rfl
theorem e_Rd_openLimit (t : Nat) (v1 : Nat) (v2 : Int32) (v3 : Int32) (h : mm_H) {fs : List Value} (hb : h t = some (.inr (6, fs))) : f_Rd_openLimit [.ref t, .ref v1, .int v2, .int v3] h =
  (mm_gr 6 0 h t).bind fun r1 =>
  mm_ci (f_Tp_isWord [.ref r1, .int 35] h) fun x3 h2 =>
  if x3 = 0 then
    mm_ci (f_Rd_startsLimit [.ref t, .int v2] h2) fun x5 h4 =>
    if x5 = 0 then
      mm_ci (f_Rd_wrong [.ref t, .int 1] h4) fun x7 h6 =>
      if x7 = 0 ∨ x7 = 1 then some (some (.int x7), h6) else none
    else
      mm_run p_Rd_openLimit mm_fu 30 [.ref t, .ref v1, .int v2, .int v3, .int x3] [] h4
  else
    mm_run p_Rd_openLimit mm_fu 30 [.ref t, .ref v1, .int v2, .int v3, .int x3] [] h2 := (mm_ga_is rfl).trans ((mm_gd_is hb).trans (e_Rd_openLimit_0 mm_fu t v1 v2 v3 h))
set_option maxRecDepth 100000 in
theorem e_Rd_openLimit_30 (f : Nat) (t : Nat) (v1 : Nat) (v2 : Int32) (v3 : Int32) (v4 : Int32) (h : mm_H) : mm_run p_Rd_openLimit (f + 1) 30 [.ref t, .ref v1, .int v2, .int v3, .int v4] [] h =
  (mm_gi 10 6 h v1).bind fun x1 =>
  if x1 < 12 then
    if v4 = 0 then
      (mm_gr 10 4 h v1).bind fun r2 =>
      (mm_sb h r2 x1 v4).bind fun h3 =>
      (mm_gr 10 5 h3 v1).bind fun r4 =>
      (mm_sb h3 r4 x1 v3).bind fun h5 =>
      (mm_gi 10 6 h5 v1).bind fun x6 =>
      (mm_pf 10 6 (.int (x6 + 1)) h5 v1).bind fun h7 =>
      some (some (.int 1), h7)
    else
      (mm_gr 6 0 h t).bind fun r8 =>
      mm_cv (f_Tp_readOn [.ref r8] h) fun h9 =>
      mm_ci (f_Rd_startsLimit [.ref t, .int v2] h9) fun x11 h10 =>
      if x11 = 0 then
        mm_ci (f_Rd_wrong [.ref t, .int 1] h10) fun x13 h12 =>
        if x13 = 0 ∨ x13 = 1 then some (some (.int x13), h12) else none
      else
        (mm_gr 10 4 h10 v1).bind fun r14 =>
        (mm_sb h10 r14 x1 v4).bind fun h15 =>
        (mm_gr 10 5 h15 v1).bind fun r16 =>
        (mm_sb h15 r16 x1 v3).bind fun h17 =>
        (mm_gi 10 6 h17 v1).bind fun x18 =>
        (mm_pf 10 6 (.int (x18 + 1)) h17 v1).bind fun h19 =>
        some (some (.int 1), h19)
  else
    mm_ci (f_Rd_wrong [.ref t, .int 5] h) fun x21 h20 =>
    if x21 = 0 ∨ x21 = 1 then some (some (.int x21), h20) else none := rfl
set_option maxRecDepth 100000 in
theorem i_Rd_openLimit (l : Launch) : mm_Imp l yX6_openLimit cX6_openLimit 6 (some .boolean) 3 f_Rd_openLimit := mm_imp l (P := p_Rd_openLimit) mm_cls_ok mm_sys_ok (by decide) (mm_Pok_of (List.forall_mem_cons.mpr ⟨k_X6_35, (List.forall_mem_cons.mpr ⟨k_X6_173, (List.forall_mem_cons.mpr ⟨k_X6_189, (List.forall_mem_cons.mpr ⟨k_X6_193, (fun _ h => absurd h List.not_mem_nil)⟩)⟩)⟩)⟩) (List.forall_mem_cons.mpr ⟨v_Rd_wrong l q_757 (by decide), (List.forall_mem_cons.mpr ⟨v_Tp_isWord l q_798 (by decide), (List.forall_mem_cons.mpr ⟨v_Tp_readOn l q_761 (by decide), (List.forall_mem_cons.mpr ⟨v_Rd_startsLimit l q_827 (by decide), (fun _ h => absurd h List.not_mem_nil)⟩)⟩)⟩)⟩) (fun _ h => absurd h List.not_mem_nil) (fun _ h => absurd h List.not_mem_nil)) (by decide +kernel) rfl (cats := [1, 1, 1, 1]) (fun as h r e => ⟨(mm_ga_inv e).1, (mm_gd_inv (mm_ga_inv e).2).1⟩) rfl (by decide)
theorem v_Rd_openLimit (l : Launch) {own : String} {i n0 : Nat} (hl : Cond.methodLink own i yX6_openLimit ∈ mm_tbl) (hn : 4 ≤ n0) : mm_cok l own n0 i (0, 3, 1, f_Rd_openLimit) := Or.inr (Or.inr ⟨rfl, yX6_openLimit, cX6_openLimit, 6, (some .boolean), 3, 6, TX6, 6, i_Rd_openLimit l, hn, by decide, by decide +kernel, rfl, fun _ _ _ e => (mm_gd_inv (mm_ga_inv e).2).2, hl, q_825, q_13, q_169, q_826⟩)
def p_Wh_keepColumn : mm_P := ([(0, .aload_n 0, 1, 0), (1, .getfield 15, 3, 0), (4, .iload_n 1, 1, 0), (5, .iload_n 2, 1, 0), (6, .iastore, 1, 0), (7, .iconst 1, 1, 1), (8, .ireturn, 1, 0)], [(15, 10, 1, 4)], [], [], [], [(0, [0, 1, 2])], [], 1)
def f_Wh_keepColumn : mm_F := fun args h => mm_ga [1, 1, 1] args (mm_gd 10 args h (mm_run p_Wh_keepColumn (mm_fu + 1) 0 args [] h))
set_option maxRecDepth 100000 in
theorem e_Wh_keepColumn_0 (f : Nat) (t : Nat) (v1 : Int32) (v2 : Int32) (h : mm_H) : mm_run p_Wh_keepColumn (f + 1) 0 [.ref t, .int v1, .int v2] [] h =
  (mm_gr 10 1 h t).bind fun r1 =>
  (mm_si h r1 v1 v2).bind fun h2 =>
  some (some (.int 1), h2) := rfl
theorem e_Wh_keepColumn (t : Nat) (v1 : Int32) (v2 : Int32) (h : mm_H) {fs : List Value} (hb : h t = some (.inr (10, fs))) : f_Wh_keepColumn [.ref t, .int v1, .int v2] h =
  (mm_gr 10 1 h t).bind fun r1 =>
  (mm_si h r1 v1 v2).bind fun h2 =>
  some (some (.int 1), h2) := (mm_ga_is rfl).trans ((mm_gd_is hb).trans (e_Wh_keepColumn_0 mm_fu t v1 v2 h))
set_option maxRecDepth 100000 in
theorem i_Wh_keepColumn (l : Launch) : mm_Imp l yX10_keepColumn cX10_keepColumn 3 (some .boolean) 1 f_Wh_keepColumn := mm_imp l (P := p_Wh_keepColumn) mm_cls_ok mm_sys_ok (by decide) (mm_Pok_of (List.forall_mem_cons.mpr ⟨k_X10_15, (fun _ h => absurd h List.not_mem_nil)⟩) (fun _ h => absurd h List.not_mem_nil) (fun _ h => absurd h List.not_mem_nil) (fun _ h => absurd h List.not_mem_nil)) (by decide +kernel) rfl (cats := [1, 1, 1]) (fun as h r e => ⟨(mm_ga_inv e).1, (mm_gd_inv (mm_ga_inv e).2).1⟩) rfl (by decide)
theorem v_Wh_keepColumn (l : Launch) {own : String} {i n0 : Nat} (hl : Cond.methodLink own i yX10_keepColumn ∈ mm_tbl) (hn : 2 ≤ n0) : mm_cok l own n0 i (0, 2, 1, f_Wh_keepColumn) := Or.inr (Or.inr ⟨rfl, yX10_keepColumn, cX10_keepColumn, 3, (some .boolean), 1, 10, TX10, 7, i_Wh_keepColumn l, hn, by decide, by decide +kernel, rfl, fun _ _ _ e => (mm_gd_inv (mm_ga_inv e).2).2, hl, q_836, q_837, q_171, q_838⟩)
def p_Wh_keepBounds : mm_P := ([(0, .aload_n 0, 1, 0), (1, .getfield 18, 3, 0), (4, .iload_n 1, 1, 0), (5, .iload_n 2, 1, 0), (6, .iastore, 1, 0), (7, .aload_n 0, 1, 0), (8, .getfield 21, 3, 0), (11, .iload_n 1, 1, 0), (12, .iload_n 3, 1, 0), (13, .iastore, 1, 0), (14, .iconst 1, 1, 1), (15, .ireturn, 1, 0)], [(18, 10, 2, 4), (21, 10, 3, 4)], [], [], [], [(0, [0, 1, 2, 3])], [], 1)
def f_Wh_keepBounds : mm_F := fun args h => mm_ga [1, 1, 1, 1] args (mm_gd 10 args h (mm_run p_Wh_keepBounds (mm_fu + 1) 0 args [] h))
set_option maxRecDepth 100000 in
theorem e_Wh_keepBounds_0 (f : Nat) (t : Nat) (v1 : Int32) (v2 : Int32) (v3 : Int32) (h : mm_H) : mm_run p_Wh_keepBounds (f + 1) 0 [.ref t, .int v1, .int v2, .int v3] [] h =
  (mm_gr 10 2 h t).bind fun r1 =>
  (mm_si h r1 v1 v2).bind fun h2 =>
  (mm_gr 10 3 h2 t).bind fun r3 =>
  (mm_si h2 r3 v1 v3).bind fun h4 =>
  some (some (.int 1), h4) := rfl
theorem e_Wh_keepBounds (t : Nat) (v1 : Int32) (v2 : Int32) (v3 : Int32) (h : mm_H) {fs : List Value} (hb : h t = some (.inr (10, fs))) : f_Wh_keepBounds [.ref t, .int v1, .int v2, .int v3] h =
  (mm_gr 10 2 h t).bind fun r1 =>
  (mm_si h r1 v1 v2).bind fun h2 =>
  (mm_gr 10 3 h2 t).bind fun r3 =>
  (mm_si h2 r3 v1 v3).bind fun h4 =>
  some (some (.int 1), h4) := (mm_ga_is rfl).trans ((mm_gd_is hb).trans (e_Wh_keepBounds_0 mm_fu t v1 v2 v3 h))
set_option maxRecDepth 100000 in
theorem i_Wh_keepBounds (l : Launch) : mm_Imp l yX10_keepBounds cX10_keepBounds 4 (some .boolean) 1 f_Wh_keepBounds := mm_imp l (P := p_Wh_keepBounds) mm_cls_ok mm_sys_ok (by decide) (mm_Pok_of (List.forall_mem_cons.mpr ⟨k_X10_18, (List.forall_mem_cons.mpr ⟨k_X10_21, (fun _ h => absurd h List.not_mem_nil)⟩)⟩) (fun _ h => absurd h List.not_mem_nil) (fun _ h => absurd h List.not_mem_nil) (fun _ h => absurd h List.not_mem_nil)) (by decide +kernel) rfl (cats := [1, 1, 1, 1]) (fun as h r e => ⟨(mm_ga_inv e).1, (mm_gd_inv (mm_ga_inv e).2).1⟩) rfl (by decide)
theorem v_Wh_keepBounds (l : Launch) {own : String} {i n0 : Nat} (hl : Cond.methodLink own i yX10_keepBounds ∈ mm_tbl) (hn : 2 ≤ n0) : mm_cok l own n0 i (0, 3, 1, f_Wh_keepBounds) := Or.inr (Or.inr ⟨rfl, yX10_keepBounds, cX10_keepBounds, 4, (some .boolean), 1, 10, TX10, 7, i_Wh_keepBounds l, hn, by decide, by decide +kernel, rfl, fun _ _ _ e => (mm_gd_inv (mm_ga_inv e).2).2, hl, q_840, q_841, q_171, q_842⟩)
def p_Rd_columnLimit : mm_P := ([(0, .aload_n 0, 1, 0), (1, .bipush 25, 2, 25), (3, .bipush 27, 2, 27), (5, .invokevirtual 139, 3, 0), (8, .ifCond .ne 5, 3, 0), (11, .iconst 0, 1, 0), (12, .ireturn, 1, 0), (13, .aload_n 1, 1, 0), (14, .iload_n 2, 1, 0), (15, .aload_n 0, 1, 0), (16, .getfield 29, 3, 0), (19, .invokevirtual 201, 3, 0), (22, .pop, 1, 0), (23, .aload_n 1, 1, 0), (24, .getfield 196, 3, 0), (27, .iload_n 2, 1, 0), (28, .bipush 28, 2, 28), (30, .iastore, 1, 0), (31, .aload_n 0, 1, 0), (32, .getfield 35, 3, 0), (35, .bipush 31, 2, 31), (37, .invokevirtual 96, 3, 0), (40, .ifCond .eq 51, 3, 0), (43, .aload_n 1, 1, 0), (44, .getfield 196, 3, 0), (47, .iload_n 2, 1, 0), (48, .bipush 31, 2, 31), (50, .iastore, 1, 0), (51, .aload_n 0, 1, 0), (52, .getfield 35, 3, 0), (55, .invokevirtual 99, 3, 0), (58, .aload_n 0, 1, 0), (59, .bipush 25, 2, 25), (61, .bipush 27, 2, 27), (63, .invokevirtual 139, 3, 0), (66, .ifCond .eq 23, 3, 0), (69, .aload_n 1, 1, 0), (70, .iload_n 2, 1, 0), (71, .aload_n 0, 1, 0), (72, .getfield 29, 3, 0), (75, .aload_n 0, 1, 0), (76, .getfield 29, 3, 0), (79, .invokevirtual 197, 3, 0), (82, .ifCond .eq 7, 3, 0), (85, .iconst 1, 1, 1), (86, .goto 4, 3, 0), (89, .iconst 0, 1, 0), (90, .ireturn, 1, 0), (91, .aload_n 0, 1, 0), (92, .getfield 35, 3, 0), (95, .bipush 30, 2, 30), (97, .invokevirtual 96, 3, 0), (100, .ifCond .eq 43, 3, 0), (103, .aload_n 0, 1, 0), (104, .getfield 35, 3, 0), (107, .invokevirtual 99, 3, 0), (110, .aload_n 0, 1, 0), (111, .iconst 0, 1, 0), (112, .sipush 999, 3, 999), (115, .invokevirtual 106, 3, 0), (118, .ifCond .eq 23, 3, 0), (121, .aload_n 1, 1, 0), (122, .iload_n 2, 1, 0), (123, .aload_n 0, 1, 0), (124, .getfield 29, 3, 0), (127, .aload_n 0, 1, 0), (128, .getfield 29, 3, 0), (131, .invokevirtual 197, 3, 0), (134, .ifCond .eq 7, 3, 0), (137, .iconst 1, 1, 1), (138, .goto 4, 3, 0), (141, .iconst 0, 1, 0), (142, .ireturn, 1, 0), (143, .aload_n 0, 1, 0), (144, .bipush 28, 2, 28), (146, .invokevirtual 146, 3, 0), (149, .ifCond .eq 14, 3, 0), (152, .aload_n 0, 1, 0), (153, .iconst 0, 1, 0), (154, .sipush 999, 3, 999), (157, .invokevirtual 106, 3, 0), (160, .ifCond .ne 5, 3, 0), (163, .iconst 0, 1, 0), (164, .ireturn, 1, 0), (165, .aload_n 0, 1, 0), (166, .getfield 29, 3, 0), (169, .istore_n 3, 1, 0), (170, .aload_n 0, 1, 0), (171, .bipush 29, 2, 29), (173, .invokevirtual 146, 3, 0), (176, .ifCond .eq 31, 3, 0), (179, .aload_n 0, 1, 0), (180, .iconst 0, 1, 0), (181, .sipush 999, 3, 999), (184, .invokevirtual 106, 3, 0), (187, .ifCond .eq 20, 3, 0), (190, .aload_n 1, 1, 0), (191, .iload_n 2, 1, 0), (192, .iload_n 3, 1, 0), (193, .aload_n 0, 1, 0), (194, .getfield 29, 3, 0), (197, .invokevirtual 197, 3, 0), (200, .ifCond .eq 7, 3, 0), (203, .iconst 1, 1, 1), (204, .goto 4, 3, 0), (207, .iconst 0, 1, 0), (208, .ireturn, 1, 0)], [(29, 6, 4, 0), (35, 6, 0, 4), (196, 10, 0, 4)], [(96, 0, 1, 1, f_Tp_isWord), (99, 0, 0, 0, f_Tp_readOn), (106, 0, 2, 1, f_Rd_takeNumber), (139, 0, 2, 1, f_Rd_takeOneOf), (146, 0, 1, 1, f_Rd_takeWord), (197, 0, 3, 1, f_Wh_keepBounds), (201, 0, 2, 1, f_Wh_keepColumn)], [], [], [(0, [0, 1, 2])], [], 1)
def f_Rd_columnLimit : mm_F := fun args h => mm_ga [1, 1, 1] args (mm_gd 6 args h (mm_run p_Rd_columnLimit (mm_fu + 1) 0 args [] h))
set_option maxRecDepth 100000 in
theorem e_Rd_columnLimit_0 (f : Nat) (t : Nat) (v1 : Nat) (v2 : Int32) (h : mm_H) : mm_run p_Rd_columnLimit (f + 1) 0 [.ref t, .ref v1, .int v2] [] h =
  mm_ci (f_Rd_takeOneOf [.ref t, .int 25, .int 27] h) fun x2 h1 =>
  if x2 = 0 then
    some (some (.int 0), h1)
  else
    (mm_gi 6 4 h1 t).bind fun x3 =>
    mm_ci (f_Wh_keepColumn [.ref v1, .int v2, .int x3] h1) fun x5 h4 =>
    (mm_gr 10 0 h4 v1).bind fun r6 =>
    (mm_si h4 r6 v2 28).bind fun h7 =>
    (mm_gr 6 0 h7 t).bind fun r8 =>
    mm_ci (f_Tp_isWord [.ref r8, .int 31] h7) fun x10 h9 =>
    if x10 = 0 then
      (mm_gr 6 0 h9 t).bind fun r11 =>
      mm_ci (f_Tp_isWord [.ref r11, .int 30] h9) fun x13 h12 =>
      if x13 = 0 then
        mm_ci (f_Rd_takeWord [.ref t, .int 28] h12) fun x15 h14 =>
        if x15 = 0 then
          some (some (.int 0), h14)
        else
          mm_ci (f_Rd_takeNumber [.ref t, .int 0, .int 999] h14) fun x17 h16 =>
          if x17 = 0 then
            some (some (.int 0), h16)
          else
            (mm_gi 6 4 h16 t).bind fun x18 =>
            mm_ci (f_Rd_takeWord [.ref t, .int 29] h16) fun x20 h19 =>
            if x20 = 0 then
              some (some (.int 0), h19)
            else
              mm_ci (f_Rd_takeNumber [.ref t, .int 0, .int 999] h19) fun x22 h21 =>
              if x22 = 0 then
                some (some (.int 0), h21)
              else
                (mm_gi 6 4 h21 t).bind fun x23 =>
                mm_ci (f_Wh_keepBounds [.ref v1, .int v2, .int x18, .int x23] h21) fun x25 h24 =>
                if x25 = 0 then
                  some (some (.int 0), h24)
                else
                  some (some (.int 1), h24)
      else
        (mm_gr 6 0 h12 t).bind fun r26 =>
        mm_cv (f_Tp_readOn [.ref r26] h12) fun h27 =>
        mm_ci (f_Rd_takeNumber [.ref t, .int 0, .int 999] h27) fun x29 h28 =>
        if x29 = 0 then
          some (some (.int 0), h28)
        else
          (mm_gi 6 4 h28 t).bind fun x30 =>
          (mm_gi 6 4 h28 t).bind fun x31 =>
          mm_ci (f_Wh_keepBounds [.ref v1, .int v2, .int x30, .int x31] h28) fun x33 h32 =>
          if x33 = 0 then
            some (some (.int 0), h32)
          else
            some (some (.int 1), h32)
    else
      (mm_gr 10 0 h9 v1).bind fun r34 =>
      (mm_si h9 r34 v2 31).bind fun h35 =>
      (mm_gr 6 0 h35 t).bind fun r36 =>
      mm_cv (f_Tp_readOn [.ref r36] h35) fun h37 =>
      mm_ci (f_Rd_takeOneOf [.ref t, .int 25, .int 27] h37) fun x39 h38 =>
      if x39 = 0 then
        some (some (.int 0), h38)
      else
        (mm_gi 6 4 h38 t).bind fun x40 =>
        (mm_gi 6 4 h38 t).bind fun x41 =>
        mm_ci (f_Wh_keepBounds [.ref v1, .int v2, .int x40, .int x41] h38) fun x43 h42 =>
        if x43 = 0 then
          some (some (.int 0), h42)
        else
          some (some (.int 1), h42) := rfl
theorem e_Rd_columnLimit (t : Nat) (v1 : Nat) (v2 : Int32) (h : mm_H) {fs : List Value} (hb : h t = some (.inr (6, fs))) : f_Rd_columnLimit [.ref t, .ref v1, .int v2] h =
  mm_ci (f_Rd_takeOneOf [.ref t, .int 25, .int 27] h) fun x2 h1 =>
  if x2 = 0 then
    some (some (.int 0), h1)
  else
    (mm_gi 6 4 h1 t).bind fun x3 =>
    mm_ci (f_Wh_keepColumn [.ref v1, .int v2, .int x3] h1) fun x5 h4 =>
    (mm_gr 10 0 h4 v1).bind fun r6 =>
    (mm_si h4 r6 v2 28).bind fun h7 =>
    (mm_gr 6 0 h7 t).bind fun r8 =>
    mm_ci (f_Tp_isWord [.ref r8, .int 31] h7) fun x10 h9 =>
    if x10 = 0 then
      (mm_gr 6 0 h9 t).bind fun r11 =>
      mm_ci (f_Tp_isWord [.ref r11, .int 30] h9) fun x13 h12 =>
      if x13 = 0 then
        mm_ci (f_Rd_takeWord [.ref t, .int 28] h12) fun x15 h14 =>
        if x15 = 0 then
          some (some (.int 0), h14)
        else
          mm_ci (f_Rd_takeNumber [.ref t, .int 0, .int 999] h14) fun x17 h16 =>
          if x17 = 0 then
            some (some (.int 0), h16)
          else
            (mm_gi 6 4 h16 t).bind fun x18 =>
            mm_ci (f_Rd_takeWord [.ref t, .int 29] h16) fun x20 h19 =>
            if x20 = 0 then
              some (some (.int 0), h19)
            else
              mm_ci (f_Rd_takeNumber [.ref t, .int 0, .int 999] h19) fun x22 h21 =>
              if x22 = 0 then
                some (some (.int 0), h21)
              else
                (mm_gi 6 4 h21 t).bind fun x23 =>
                mm_ci (f_Wh_keepBounds [.ref v1, .int v2, .int x18, .int x23] h21) fun x25 h24 =>
                if x25 = 0 then
                  some (some (.int 0), h24)
                else
                  some (some (.int 1), h24)
      else
        (mm_gr 6 0 h12 t).bind fun r26 =>
        mm_cv (f_Tp_readOn [.ref r26] h12) fun h27 =>
        mm_ci (f_Rd_takeNumber [.ref t, .int 0, .int 999] h27) fun x29 h28 =>
        if x29 = 0 then
          some (some (.int 0), h28)
        else
          (mm_gi 6 4 h28 t).bind fun x30 =>
          (mm_gi 6 4 h28 t).bind fun x31 =>
          mm_ci (f_Wh_keepBounds [.ref v1, .int v2, .int x30, .int x31] h28) fun x33 h32 =>
          if x33 = 0 then
            some (some (.int 0), h32)
          else
            some (some (.int 1), h32)
    else
      (mm_gr 10 0 h9 v1).bind fun r34 =>
      (mm_si h9 r34 v2 31).bind fun h35 =>
      (mm_gr 6 0 h35 t).bind fun r36 =>
      mm_cv (f_Tp_readOn [.ref r36] h35) fun h37 =>
      mm_ci (f_Rd_takeOneOf [.ref t, .int 25, .int 27] h37) fun x39 h38 =>
      if x39 = 0 then
        some (some (.int 0), h38)
      else
        (mm_gi 6 4 h38 t).bind fun x40 =>
        (mm_gi 6 4 h38 t).bind fun x41 =>
        mm_ci (f_Wh_keepBounds [.ref v1, .int v2, .int x40, .int x41] h38) fun x43 h42 =>
        if x43 = 0 then
          some (some (.int 0), h42)
        else
          some (some (.int 1), h42) := (mm_ga_is rfl).trans ((mm_gd_is hb).trans (e_Rd_columnLimit_0 mm_fu t v1 v2 h))
set_option maxRecDepth 100000 in
theorem i_Rd_columnLimit (l : Launch) : mm_Imp l yX6_columnLimit cX6_columnLimit 4 (some .boolean) 4 f_Rd_columnLimit := mm_imp l (P := p_Rd_columnLimit) mm_cls_ok mm_sys_ok (by decide) (mm_Pok_of (List.forall_mem_cons.mpr ⟨k_X6_29, (List.forall_mem_cons.mpr ⟨k_X6_35, (List.forall_mem_cons.mpr ⟨k_X6_196, (fun _ h => absurd h List.not_mem_nil)⟩)⟩)⟩) (List.forall_mem_cons.mpr ⟨v_Tp_isWord l q_798 (by decide), (List.forall_mem_cons.mpr ⟨v_Tp_readOn l q_761 (by decide), (List.forall_mem_cons.mpr ⟨v_Rd_takeNumber l q_762 (by decide), (List.forall_mem_cons.mpr ⟨v_Rd_takeOneOf l q_786 (by decide), (List.forall_mem_cons.mpr ⟨v_Rd_takeWord l q_794 (by decide), (List.forall_mem_cons.mpr ⟨v_Wh_keepBounds l q_839 (by decide), (List.forall_mem_cons.mpr ⟨v_Wh_keepColumn l q_835 (by decide), (fun _ h => absurd h List.not_mem_nil)⟩)⟩)⟩)⟩)⟩)⟩)⟩) (fun _ h => absurd h List.not_mem_nil) (fun _ h => absurd h List.not_mem_nil)) (by decide +kernel) rfl (cats := [1, 1, 1]) (fun as h r e => ⟨(mm_ga_inv e).1, (mm_gd_inv (mm_ga_inv e).2).1⟩) rfl (by decide)
theorem v_Rd_columnLimit (l : Launch) {own : String} {i n0 : Nat} (hl : Cond.methodLink own i yX6_columnLimit ∈ mm_tbl) (hn : 5 ≤ n0) : mm_cok l own n0 i (0, 2, 1, f_Rd_columnLimit) := Or.inr (Or.inr ⟨rfl, yX6_columnLimit, cX6_columnLimit, 4, (some .boolean), 4, 6, TX6, 6, i_Rd_columnLimit l, hn, by decide, by decide +kernel, rfl, fun _ _ _ e => (mm_gd_inv (mm_ga_inv e).2).2, hl, q_833, q_15, q_169, q_834⟩)
def p_Rd_otherLimit : mm_P := ([(0, .aload_n 0, 1, 0), (1, .getfield 35, 3, 0), (4, .getfield 50, 3, 0), (7, .istore_n 3, 1, 0), (8, .aload_n 1, 1, 0), (9, .getfield 196, 3, 0), (12, .iload_n 2, 1, 0), (13, .iload_n 3, 1, 0), (14, .iastore, 1, 0), (15, .aload_n 0, 1, 0), (16, .getfield 35, 3, 0), (19, .invokevirtual 99, 3, 0), (22, .iload_n 3, 1, 0), (23, .bipush 32, 2, 32), (25, .if_icmp .ne 35, 3, 0), (28, .aload_n 0, 1, 0), (29, .iconst 2, 1, 2), (30, .bipush 9, 2, 9), (32, .invokevirtual 106, 3, 0), (35, .ifCond .eq 23, 3, 0), (38, .aload_n 1, 1, 0), (39, .iload_n 2, 1, 0), (40, .aload_n 0, 1, 0), (41, .getfield 29, 3, 0), (44, .aload_n 0, 1, 0), (45, .getfield 29, 3, 0), (48, .invokevirtual 197, 3, 0), (51, .ifCond .eq 7, 3, 0), (54, .iconst 1, 1, 1), (55, .goto 4, 3, 0), (58, .iconst 0, 1, 0), (59, .ireturn, 1, 0), (60, .iload_n 3, 1, 0), (61, .bipush 34, 2, 34), (63, .if_icmp .eq 26, 3, 0), (66, .aload_n 0, 1, 0), (67, .bipush 25, 2, 25), (69, .bipush 27, 2, 27), (71, .invokevirtual 139, 3, 0), (74, .ifCond .eq 19, 3, 0), (77, .aload_n 1, 1, 0), (78, .iload_n 2, 1, 0), (79, .aload_n 0, 1, 0), (80, .getfield 29, 3, 0), (83, .invokevirtual 201, 3, 0), (86, .ifCond .eq 7, 3, 0), (89, .iconst 1, 1, 1), (90, .goto 4, 3, 0), (93, .iconst 0, 1, 0), (94, .ireturn, 1, 0)], [(29, 6, 4, 0), (35, 6, 0, 4), (50, 9, 7, 0), (196, 10, 0, 4)], [(99, 0, 0, 0, f_Tp_readOn), (106, 0, 2, 1, f_Rd_takeNumber), (139, 0, 2, 1, f_Rd_takeOneOf), (197, 0, 3, 1, f_Wh_keepBounds), (201, 0, 2, 1, f_Wh_keepColumn)], [], [], [(0, [0, 1, 2])], [], 1)
def f_Rd_otherLimit : mm_F := fun args h => mm_ga [1, 1, 1] args (mm_gd 6 args h (mm_run p_Rd_otherLimit (mm_fu + 1) 0 args [] h))
set_option maxRecDepth 100000 in
theorem e_Rd_otherLimit_0 (f : Nat) (t : Nat) (v1 : Nat) (v2 : Int32) (h : mm_H) : mm_run p_Rd_otherLimit (f + 1) 0 [.ref t, .ref v1, .int v2] [] h =
  (mm_gr 6 0 h t).bind fun r1 =>
  (mm_gi 9 7 h r1).bind fun x2 =>
  (mm_gr 10 0 h v1).bind fun r3 =>
  (mm_si h r3 v2 x2).bind fun h4 =>
  (mm_gr 6 0 h4 t).bind fun r5 =>
  mm_cv (f_Tp_readOn [.ref r5] h4) fun h6 =>
  if x2 = 32 then
    mm_ci (f_Rd_takeNumber [.ref t, .int 2, .int 9] h6) fun x8 h7 =>
    if x8 = 0 then
      some (some (.int 0), h7)
    else
      (mm_gi 6 4 h7 t).bind fun x9 =>
      (mm_gi 6 4 h7 t).bind fun x10 =>
      mm_ci (f_Wh_keepBounds [.ref v1, .int v2, .int x9, .int x10] h7) fun x12 h11 =>
      if x12 = 0 then
        some (some (.int 0), h11)
      else
        some (some (.int 1), h11)
  else
    if x2 = 34 then
      some (some (.int 1), h6)
    else
      mm_ci (f_Rd_takeOneOf [.ref t, .int 25, .int 27] h6) fun x14 h13 =>
      if x14 = 0 then
        some (some (.int 0), h13)
      else
        (mm_gi 6 4 h13 t).bind fun x15 =>
        mm_ci (f_Wh_keepColumn [.ref v1, .int v2, .int x15] h13) fun x17 h16 =>
        if x17 = 0 then
          some (some (.int 0), h16)
        else
          some (some (.int 1), h16) := rfl
theorem e_Rd_otherLimit (t : Nat) (v1 : Nat) (v2 : Int32) (h : mm_H) {fs : List Value} (hb : h t = some (.inr (6, fs))) : f_Rd_otherLimit [.ref t, .ref v1, .int v2] h =
  (mm_gr 6 0 h t).bind fun r1 =>
  (mm_gi 9 7 h r1).bind fun x2 =>
  (mm_gr 10 0 h v1).bind fun r3 =>
  (mm_si h r3 v2 x2).bind fun h4 =>
  (mm_gr 6 0 h4 t).bind fun r5 =>
  mm_cv (f_Tp_readOn [.ref r5] h4) fun h6 =>
  if x2 = 32 then
    mm_ci (f_Rd_takeNumber [.ref t, .int 2, .int 9] h6) fun x8 h7 =>
    if x8 = 0 then
      some (some (.int 0), h7)
    else
      (mm_gi 6 4 h7 t).bind fun x9 =>
      (mm_gi 6 4 h7 t).bind fun x10 =>
      mm_ci (f_Wh_keepBounds [.ref v1, .int v2, .int x9, .int x10] h7) fun x12 h11 =>
      if x12 = 0 then
        some (some (.int 0), h11)
      else
        some (some (.int 1), h11)
  else
    if x2 = 34 then
      some (some (.int 1), h6)
    else
      mm_ci (f_Rd_takeOneOf [.ref t, .int 25, .int 27] h6) fun x14 h13 =>
      if x14 = 0 then
        some (some (.int 0), h13)
      else
        (mm_gi 6 4 h13 t).bind fun x15 =>
        mm_ci (f_Wh_keepColumn [.ref v1, .int v2, .int x15] h13) fun x17 h16 =>
        if x17 = 0 then
          some (some (.int 0), h16)
        else
          some (some (.int 1), h16) := (mm_ga_is rfl).trans ((mm_gd_is hb).trans (e_Rd_otherLimit_0 mm_fu t v1 v2 h))
set_option maxRecDepth 100000 in
theorem i_Rd_otherLimit (l : Launch) : mm_Imp l yX6_otherLimit cX6_otherLimit 4 (some .boolean) 4 f_Rd_otherLimit := mm_imp l (P := p_Rd_otherLimit) mm_cls_ok mm_sys_ok (by decide) (mm_Pok_of (List.forall_mem_cons.mpr ⟨k_X6_29, (List.forall_mem_cons.mpr ⟨k_X6_35, (List.forall_mem_cons.mpr ⟨k_X6_50, (List.forall_mem_cons.mpr ⟨k_X6_196, (fun _ h => absurd h List.not_mem_nil)⟩)⟩)⟩)⟩) (List.forall_mem_cons.mpr ⟨v_Tp_readOn l q_761 (by decide), (List.forall_mem_cons.mpr ⟨v_Rd_takeNumber l q_762 (by decide), (List.forall_mem_cons.mpr ⟨v_Rd_takeOneOf l q_786 (by decide), (List.forall_mem_cons.mpr ⟨v_Wh_keepBounds l q_839 (by decide), (List.forall_mem_cons.mpr ⟨v_Wh_keepColumn l q_835 (by decide), (fun _ h => absurd h List.not_mem_nil)⟩)⟩)⟩)⟩)⟩) (fun _ h => absurd h List.not_mem_nil) (fun _ h => absurd h List.not_mem_nil)) (by decide +kernel) rfl (cats := [1, 1, 1]) (fun as h r e => ⟨(mm_ga_inv e).1, (mm_gd_inv (mm_ga_inv e).2).1⟩) rfl (by decide)
theorem v_Rd_otherLimit (l : Launch) {own : String} {i n0 : Nat} (hl : Cond.methodLink own i yX6_otherLimit ∈ mm_tbl) (hn : 5 ≤ n0) : mm_cok l own n0 i (0, 2, 1, f_Rd_otherLimit) := Or.inr (Or.inr ⟨rfl, yX6_otherLimit, cX6_otherLimit, 4, (some .boolean), 4, 6, TX6, 6, i_Rd_otherLimit l, hn, by decide, by decide +kernel, rfl, fun _ _ _ e => (mm_gd_inv (mm_ga_inv e).2).2, hl, q_845, q_16, q_169, q_846⟩)
def p_Rd_whereLine : mm_P := ([(0, .iconst 1, 1, 1), (1, .istore_n 3, 1, 0), (2, .iconst 0, 1, 0), (3, .istore 4, 2, 0), (5, .iload 4, 2, 0), (7, .bipush 12, 2, 12), (9, .if_icmp .gt 115, 3, 0), (12, .aload_n 0, 1, 0), (13, .aload_n 1, 1, 0), (14, .iload_n 2, 1, 0), (15, .iload_n 3, 1, 0), (16, .invokevirtual 169, 3, 0), (19, .ifCond .ne 5, 3, 0), (22, .iconst 0, 1, 0), (23, .ireturn, 1, 0), (24, .aload_n 1, 1, 0), (25, .getfield 173, 3, 0), (28, .iconst 1, 1, 1), (29, .isub, 1, 0), (30, .istore 5, 2, 0), (32, .aload_n 0, 1, 0), (33, .getfield 35, 3, 0), (36, .bipush 25, 2, 25), (38, .bipush 27, 2, 27), (40, .invokevirtual 102, 3, 0), (43, .ifCond .eq 13, 3, 0), (46, .aload_n 0, 1, 0), (47, .aload_n 1, 1, 0), (48, .iload 5, 2, 0), (50, .invokevirtual 178, 3, 0), (53, .goto 10, 3, 0), (56, .aload_n 0, 1, 0), (57, .aload_n 1, 1, 0), (58, .iload 5, 2, 0), (60, .invokevirtual 182, 3, 0), (63, .istore 6, 2, 0), (65, .iload 6, 2, 0), (67, .ifCond .ne 5, 3, 0), (70, .iconst 0, 1, 0), (71, .ireturn, 1, 0), (72, .aload_n 0, 1, 0), (73, .getfield 35, 3, 0), (76, .bipush 36, 2, 36), (78, .invokevirtual 96, 3, 0), (81, .ifCond .ne 20, 3, 0), (84, .aload_n 0, 1, 0), (85, .getfield 35, 3, 0), (88, .bipush 37, 2, 37), (90, .invokevirtual 96, 3, 0), (93, .ifCond .ne 8, 3, 0), (96, .aload_n 0, 1, 0), (97, .invokevirtual 112, 3, 0), (100, .ireturn, 1, 0), (101, .aload_n 0, 1, 0), (102, .getfield 35, 3, 0), (105, .bipush 37, 2, 37), (107, .invokevirtual 96, 3, 0), (110, .istore_n 3, 1, 0), (111, .aload_n 0, 1, 0), (112, .getfield 35, 3, 0), (115, .invokevirtual 99, 3, 0), (118, .iinc 4 1, 3, 1), (121, .goto (-116), 3, 0), (124, .aload_n 0, 1, 0), (125, .iconst 5, 1, 5), (126, .invokevirtual 83, 3, 0), (129, .ireturn, 1, 0)], [(35, 6, 0, 4), (173, 10, 6, 0)], [(83, 0, 1, 1, f_Rd_wrong), (96, 0, 1, 1, f_Tp_isWord), (99, 0, 0, 0, f_Tp_readOn), (102, 0, 2, 1, f_Tp_isBetween), (112, 0, 0, 1, f_Rd_takeMark), (169, 0, 3, 1, f_Rd_openLimit), (178, 0, 2, 1, f_Rd_columnLimit), (182, 0, 2, 1, f_Rd_otherLimit)], [], [], [(0, [0, 1, 2]), (5, [0, 1, 2, 3, 4]), (63, [0, 1, 2, 4])], [], 1)
def f_Rd_whereLine : mm_F := fun args h => mm_ga [1, 1, 1] args (mm_gd 6 args h (mm_run p_Rd_whereLine (mm_fu + 1) 0 args [] h))
set_option maxRecDepth 100000 in
theorem e_Rd_whereLine_0 (f : Nat) (t : Nat) (v1 : Nat) (v2 : Int32) (h : mm_H) : mm_run p_Rd_whereLine (f + 1) 0 [.ref t, .ref v1, .int v2] [] h =
  mm_run p_Rd_whereLine f 5 [.ref t, .ref v1, .int v2, .int 1, .int 0] [] h := rfl
theorem e_Rd_whereLine (t : Nat) (v1 : Nat) (v2 : Int32) (h : mm_H) {fs : List Value} (hb : h t = some (.inr (6, fs))) : f_Rd_whereLine [.ref t, .ref v1, .int v2] h =
  mm_run p_Rd_whereLine mm_fu 5 [.ref t, .ref v1, .int v2, .int 1, .int 0] [] h := (mm_ga_is rfl).trans ((mm_gd_is hb).trans (e_Rd_whereLine_0 mm_fu t v1 v2 h))
set_option maxRecDepth 100000 in
theorem e_Rd_whereLine_5 (f : Nat) (t : Nat) (v1 : Nat) (v2 : Int32) (v3 : Int32) (v4 : Int32) (h : mm_H) : mm_run p_Rd_whereLine (f + 1) 5 [.ref t, .ref v1, .int v2, .int v3, .int v4] [] h =
  if (12 : Int32) < v4 then
    mm_ci (f_Rd_wrong [.ref t, .int 5] h) fun x2 h1 =>
    if x2 = 0 ∨ x2 = 1 then some (some (.int x2), h1) else none
  else
    mm_ci (f_Rd_openLimit [.ref t, .ref v1, .int v2, .int v3] h) fun x4 h3 =>
    if x4 = 0 then
      some (some (.int 0), h3)
    else
      (mm_gi 10 6 h3 v1).bind fun x5 =>
      (mm_gr 6 0 h3 t).bind fun r6 =>
      mm_ci (f_Tp_isBetween [.ref r6, .int 25, .int 27] h3) fun x8 h7 =>
      if x8 = 0 then
        mm_ci (f_Rd_otherLimit [.ref t, .ref v1, .int (x5 - 1)] h7) fun x10 h9 =>
        mm_run p_Rd_whereLine f 63 [.ref t, .ref v1, .int v2, .int v4] [.int x10] h9
      else
        mm_ci (f_Rd_columnLimit [.ref t, .ref v1, .int (x5 - 1)] h7) fun x12 h11 =>
        mm_run p_Rd_whereLine f 63 [.ref t, .ref v1, .int v2, .int v4] [.int x12] h11 := rfl
set_option maxRecDepth 100000 in
theorem e_Rd_whereLine_63 (f : Nat) (t : Nat) (v1 : Nat) (v2 : Int32) (v4 : Int32) (s0 : Int32) (h : mm_H) : mm_run p_Rd_whereLine (f + 1) 63 [.ref t, .ref v1, .int v2, .int v4] [.int s0] h =
  if s0 = 0 then
    some (some (.int 0), h)
  else
    (mm_gr 6 0 h t).bind fun r1 =>
    mm_ci (f_Tp_isWord [.ref r1, .int 36] h) fun x3 h2 =>
    if x3 = 0 then
      (mm_gr 6 0 h2 t).bind fun r4 =>
      mm_ci (f_Tp_isWord [.ref r4, .int 37] h2) fun x6 h5 =>
      if x6 = 0 then
        mm_ci (f_Rd_takeMark [.ref t] h5) fun x8 h7 =>
        if x8 = 0 ∨ x8 = 1 then some (some (.int x8), h7) else none
      else
        (mm_gr 6 0 h5 t).bind fun r9 =>
        mm_ci (f_Tp_isWord [.ref r9, .int 37] h5) fun x11 h10 =>
        (mm_gr 6 0 h10 t).bind fun r12 =>
        mm_cv (f_Tp_readOn [.ref r12] h10) fun h13 =>
        mm_run p_Rd_whereLine f 5 [.ref t, .ref v1, .int v2, .int x11, .int (v4 + 1)] [] h13
    else
      (mm_gr 6 0 h2 t).bind fun r14 =>
      mm_ci (f_Tp_isWord [.ref r14, .int 37] h2) fun x16 h15 =>
      (mm_gr 6 0 h15 t).bind fun r17 =>
      mm_cv (f_Tp_readOn [.ref r17] h15) fun h18 =>
      mm_run p_Rd_whereLine f 5 [.ref t, .ref v1, .int v2, .int x16, .int (v4 + 1)] [] h18 := rfl
set_option maxRecDepth 100000 in
theorem i_Rd_whereLine (l : Launch) : mm_Imp l yX6_whereLine cX6_whereLine 7 (some .boolean) 5 f_Rd_whereLine := mm_imp l (P := p_Rd_whereLine) mm_cls_ok mm_sys_ok (by decide) (mm_Pok_of (List.forall_mem_cons.mpr ⟨k_X6_35, (List.forall_mem_cons.mpr ⟨k_X6_173, (fun _ h => absurd h List.not_mem_nil)⟩)⟩) (List.forall_mem_cons.mpr ⟨v_Rd_wrong l q_757 (by decide), (List.forall_mem_cons.mpr ⟨v_Tp_isWord l q_798 (by decide), (List.forall_mem_cons.mpr ⟨v_Tp_readOn l q_761 (by decide), (List.forall_mem_cons.mpr ⟨v_Tp_isBetween l q_790 (by decide), (List.forall_mem_cons.mpr ⟨v_Rd_takeMark l q_766 (by decide), (List.forall_mem_cons.mpr ⟨v_Rd_openLimit l q_823 (by decide), (List.forall_mem_cons.mpr ⟨v_Rd_columnLimit l q_831 (by decide), (List.forall_mem_cons.mpr ⟨v_Rd_otherLimit l q_843 (by decide), (fun _ h => absurd h List.not_mem_nil)⟩)⟩)⟩)⟩)⟩)⟩)⟩)⟩) (fun _ h => absurd h List.not_mem_nil) (fun _ h => absurd h List.not_mem_nil)) (by decide +kernel) rfl (cats := [1, 1, 1]) (fun as h r e => ⟨(mm_ga_inv e).1, (mm_gd_inv (mm_ga_inv e).2).1⟩) rfl (by decide)
theorem v_Rd_whereLine (l : Launch) {own : String} {i n0 : Nat} (hl : Cond.methodLink own i yX6_whereLine ∈ mm_tbl) (hn : 6 ≤ n0) : mm_cok l own n0 i (0, 2, 1, f_Rd_whereLine) := Or.inr (Or.inr ⟨rfl, yX6_whereLine, cX6_whereLine, 7, (some .boolean), 5, 6, TX6, 6, i_Rd_whereLine l, hn, by decide, by decide +kernel, rfl, fun _ _ _ e => (mm_gd_inv (mm_ga_inv e).2).2, hl, q_821, q_12, q_169, q_822⟩)
def p_Rd_readPlan : mm_P := ([(0, .aload_n 0, 1, 0), (1, .aload_n 1, 1, 0), (2, .putfield 12, 3, 0), (5, .aload_n 0, 1, 0), (6, .getfield 12, 3, 0), (9, .invokevirtual 39, 3, 0), (12, .aload_n 0, 1, 0), (13, .iconst 0, 1, 0), (14, .putfield 32, 3, 0), (17, .aload_n 0, 1, 0), (18, .iconst 0, 1, 0), (19, .putfield 25, 3, 0), (22, .aload_n 0, 1, 0), (23, .getfield 35, 3, 0), (26, .invokevirtual 42, 3, 0), (29, .iconst 1, 1, 1), (30, .istore_n 2, 1, 0), (31, .iconst 0, 1, 0), (32, .istore_n 3, 1, 0), (33, .iload_n 3, 1, 0), (34, .sipush 1000, 3, 1000), (37, .if_icmp .ge 205, 3, 0), (40, .iload_n 2, 1, 0), (41, .ifCond .eq 201, 3, 0), (44, .aload_n 0, 1, 0), (45, .getfield 35, 3, 0), (48, .getfield 47, 3, 0), (51, .ifCond .eq 191, 3, 0), (54, .aload_n 0, 1, 0), (55, .getfield 35, 3, 0), (58, .getfield 47, 3, 0), (61, .iconst 1, 1, 1), (62, .if_icmp .ne 13, 3, 0), (65, .aload_n 0, 1, 0), (66, .getfield 35, 3, 0), (69, .getfield 50, 3, 0), (72, .goto 4, 3, 0), (75, .iconst (-1), 1, (-1)), (76, .tableswitch 154 0 8 #[52, 60, 68, 154, 76, 84, 154, 92, 123], 52, 0), (128, .aload_n 0, 1, 0), (129, .invokevirtual 53, 3, 0), (132, .istore_n 2, 1, 0), (133, .goto 103, 3, 0), (136, .aload_n 0, 1, 0), (137, .invokevirtual 57, 3, 0), (140, .istore_n 2, 1, 0), (141, .goto 95, 3, 0), (144, .aload_n 0, 1, 0), (145, .invokevirtual 60, 3, 0), (148, .istore_n 2, 1, 0), (149, .goto 87, 3, 0), (152, .aload_n 0, 1, 0), (153, .invokevirtual 63, 3, 0), (156, .istore_n 2, 1, 0), (157, .goto 79, 3, 0), (160, .aload_n 0, 1, 0), (161, .invokevirtual 66, 3, 0), (164, .istore_n 2, 1, 0), (165, .goto 71, 3, 0), (168, .aload_n 0, 1, 0), (169, .invokevirtual 69, 3, 0), (172, .ifCond .eq 22, 3, 0), (175, .aload_n 0, 1, 0), (176, .aload_n 0, 1, 0), (177, .getfield 12, 3, 0), (180, .getfield 72, 3, 0), (183, .iconst 0, 1, 0), (184, .invokevirtual 76, 3, 0), (187, .ifCond .eq 7, 3, 0), (190, .iconst 1, 1, 1), (191, .goto 4, 3, 0), (194, .iconst 0, 1, 0), (195, .istore_n 2, 1, 0), (196, .goto 40, 3, 0), (199, .aload_n 0, 1, 0), (200, .invokevirtual 69, 3, 0), (203, .ifCond .eq 22, 3, 0), (206, .aload_n 0, 1, 0), (207, .aload_n 0, 1, 0), (208, .getfield 12, 3, 0), (211, .getfield 80, 3, 0), (214, .iconst 1, 1, 1), (215, .invokevirtual 76, 3, 0), (218, .ifCond .eq 7, 3, 0), (221, .iconst 1, 1, 1), (222, .goto 4, 3, 0), (225, .iconst 0, 1, 0), (226, .istore_n 2, 1, 0), (227, .goto 9, 3, 0), (230, .aload_n 0, 1, 0), (231, .iconst 1, 1, 1), (232, .invokevirtual 83, 3, 0), (235, .istore_n 2, 1, 0), (236, .iinc 3 1, 3, 1), (239, .goto (-206), 3, 0), (242, .aload_n 0, 1, 0), (243, .getfield 25, 3, 0), (246, .ireturn, 1, 0)], [(12, 6, 1, 2), (25, 6, 3, 0), (32, 6, 5, 0), (35, 6, 0, 4), (47, 9, 6, 0), (50, 9, 7, 0), (72, 4, 6, 4), (80, 4, 7, 4)], [(39, 0, 0, 0, f_Pl_clear), (42, 0, 0, 0, f_Tp_rewind), (53, 0, 0, 1, f_Rd_pageLine), (57, 0, 0, 1, f_Rd_batchLine), (60, 0, 0, 1, f_Rd_indexLine), (63, 0, 0, 1, f_Rd_rowLine), (66, 0, 0, 1, f_Rd_pointLine), (69, 0, 0, 1, f_Rd_takeSingle), (76, 0, 2, 1, f_Rd_whereLine), (83, 0, 1, 1, f_Rd_wrong)], [], [], [(0, [0, 1]), (33, [0, 2, 3]), (76, [0, 3])], [(76, [(0, 128), (1, 136), (2, 144), (3, 230), (4, 152), (5, 160), (6, 230), (7, 168), (8, 199)], 230)], 2)
def f_Rd_readPlan : mm_F := fun args h => mm_ga [1, 1] args (mm_gd 6 args h (mm_run p_Rd_readPlan (mm_fu + 1) 0 args [] h))
set_option maxRecDepth 100000 in
theorem e_Rd_readPlan_0 (f : Nat) (t : Nat) (v1 : Nat) (h : mm_H) : mm_run p_Rd_readPlan (f + 1) 0 [.ref t, .ref v1] [] h =
  (mm_pf 6 1 (.ref v1) h t).bind fun h1 =>
  (mm_gr 6 1 h1 t).bind fun r2 =>
  mm_cv (f_Pl_clear [.ref r2] h1) fun h3 =>
  (mm_pf 6 5 (.int 0) h3 t).bind fun h4 =>
  (mm_pf 6 3 (.int 0) h4 t).bind fun h5 =>
  (mm_gr 6 0 h5 t).bind fun r6 =>
  mm_cv (f_Tp_rewind [.ref r6] h5) fun h7 =>
  mm_run p_Rd_readPlan f 33 [.ref t, .int 1, .int 0] [] h7 := rfl
theorem e_Rd_readPlan (t : Nat) (v1 : Nat) (h : mm_H) {fs : List Value} (hb : h t = some (.inr (6, fs))) : f_Rd_readPlan [.ref t, .ref v1] h =
  (mm_pf 6 1 (.ref v1) h t).bind fun h1 =>
  (mm_gr 6 1 h1 t).bind fun r2 =>
  mm_cv (f_Pl_clear [.ref r2] h1) fun h3 =>
  (mm_pf 6 5 (.int 0) h3 t).bind fun h4 =>
  (mm_pf 6 3 (.int 0) h4 t).bind fun h5 =>
  (mm_gr 6 0 h5 t).bind fun r6 =>
  mm_cv (f_Tp_rewind [.ref r6] h5) fun h7 =>
  mm_run p_Rd_readPlan mm_fu 33 [.ref t, .int 1, .int 0] [] h7 := (mm_ga_is rfl).trans ((mm_gd_is hb).trans (e_Rd_readPlan_0 mm_fu t v1 h))
set_option maxRecDepth 100000 in
theorem e_Rd_readPlan_33 (f : Nat) (t : Nat) (v2 : Int32) (v3 : Int32) (h : mm_H) : mm_run p_Rd_readPlan (f + 1) 33 [.ref t, .int v2, .int v3] [] h =
  if v3 < 1000 then
    if v2 = 0 then
      (mm_gi 6 3 h t).bind fun x1 =>
      some (some (.int x1), h)
    else
      (mm_gr 6 0 h t).bind fun r2 =>
      (mm_gi 9 6 h r2).bind fun x3 =>
      if x3 = 0 then
        (mm_gi 6 3 h t).bind fun x4 =>
        some (some (.int x4), h)
      else
        (mm_gr 6 0 h t).bind fun r5 =>
        (mm_gi 9 6 h r5).bind fun x6 =>
        if x6 = 1 then
          (mm_gr 6 0 h t).bind fun r7 =>
          (mm_gi 9 7 h r7).bind fun x8 =>
          mm_run p_Rd_readPlan f 76 [.ref t, .int v3] [.int x8] h
        else
          mm_run p_Rd_readPlan f 76 [.ref t, .int v3] [.int (-1)] h
  else
    (mm_gi 6 3 h t).bind fun x9 =>
    some (some (.int x9), h) := rfl
set_option maxRecDepth 100000 in
theorem e_Rd_readPlan_76 (f : Nat) (t : Nat) (v3 : Int32) (s0 : Int32) (h : mm_H) : mm_run p_Rd_readPlan (f + 1) 76 [.ref t, .int v3] [.int s0] h =
  if s0 = 0 then
    mm_ci (f_Rd_pageLine [.ref t] h) fun x2 h1 =>
    mm_run p_Rd_readPlan f 33 [.ref t, .int x2, .int (v3 + 1)] [] h1
  else if s0 = 1 then
    mm_ci (f_Rd_batchLine [.ref t] h) fun x4 h3 =>
    mm_run p_Rd_readPlan f 33 [.ref t, .int x4, .int (v3 + 1)] [] h3
  else if s0 = 2 then
    mm_ci (f_Rd_indexLine [.ref t] h) fun x6 h5 =>
    mm_run p_Rd_readPlan f 33 [.ref t, .int x6, .int (v3 + 1)] [] h5
  else if s0 = 3 then
    mm_ci (f_Rd_wrong [.ref t, .int 1] h) fun x8 h7 =>
    mm_run p_Rd_readPlan f 33 [.ref t, .int x8, .int (v3 + 1)] [] h7
  else if s0 = 4 then
    mm_ci (f_Rd_rowLine [.ref t] h) fun x10 h9 =>
    mm_run p_Rd_readPlan f 33 [.ref t, .int x10, .int (v3 + 1)] [] h9
  else if s0 = 5 then
    mm_ci (f_Rd_pointLine [.ref t] h) fun x12 h11 =>
    mm_run p_Rd_readPlan f 33 [.ref t, .int x12, .int (v3 + 1)] [] h11
  else if s0 = 6 then
    mm_ci (f_Rd_wrong [.ref t, .int 1] h) fun x14 h13 =>
    mm_run p_Rd_readPlan f 33 [.ref t, .int x14, .int (v3 + 1)] [] h13
  else if s0 = 7 then
    mm_ci (f_Rd_takeSingle [.ref t] h) fun x16 h15 =>
    if x16 = 0 then
      mm_run p_Rd_readPlan f 33 [.ref t, .int 0, .int (v3 + 1)] [] h15
    else
      (mm_gr 6 1 h15 t).bind fun r17 =>
      (mm_gr 4 6 h15 r17).bind fun r18 =>
      mm_ci (f_Rd_whereLine [.ref t, .ref r18, .int 0] h15) fun x20 h19 =>
      if x20 = 0 then
        mm_run p_Rd_readPlan f 33 [.ref t, .int 0, .int (v3 + 1)] [] h19
      else
        mm_run p_Rd_readPlan f 33 [.ref t, .int 1, .int (v3 + 1)] [] h19
  else if s0 = 8 then
    mm_ci (f_Rd_takeSingle [.ref t] h) fun x22 h21 =>
    if x22 = 0 then
      mm_run p_Rd_readPlan f 33 [.ref t, .int 0, .int (v3 + 1)] [] h21
    else
      (mm_gr 6 1 h21 t).bind fun r23 =>
      (mm_gr 4 7 h21 r23).bind fun r24 =>
      mm_ci (f_Rd_whereLine [.ref t, .ref r24, .int 1] h21) fun x26 h25 =>
      if x26 = 0 then
        mm_run p_Rd_readPlan f 33 [.ref t, .int 0, .int (v3 + 1)] [] h25
      else
        mm_run p_Rd_readPlan f 33 [.ref t, .int 1, .int (v3 + 1)] [] h25
  else 
    mm_ci (f_Rd_wrong [.ref t, .int 1] h) fun x28 h27 =>
    mm_run p_Rd_readPlan f 33 [.ref t, .int x28, .int (v3 + 1)] [] h27 := rfl
set_option maxRecDepth 100000 in
theorem i_Rd_readPlan (l : Launch) : mm_Imp l yX6_readPlan cX6_readPlan 4 (some .int) 6 f_Rd_readPlan := mm_imp l (P := p_Rd_readPlan) mm_cls_ok mm_sys_ok (by decide) (mm_Pok_of (List.forall_mem_cons.mpr ⟨k_X6_12, (List.forall_mem_cons.mpr ⟨k_X6_25, (List.forall_mem_cons.mpr ⟨k_X6_32, (List.forall_mem_cons.mpr ⟨k_X6_35, (List.forall_mem_cons.mpr ⟨k_X6_47, (List.forall_mem_cons.mpr ⟨k_X6_50, (List.forall_mem_cons.mpr ⟨k_X6_72, (List.forall_mem_cons.mpr ⟨k_X6_80, (fun _ h => absurd h List.not_mem_nil)⟩)⟩)⟩)⟩)⟩)⟩)⟩)⟩) (List.forall_mem_cons.mpr ⟨v_Pl_clear l q_733 (by decide), (List.forall_mem_cons.mpr ⟨v_Tp_rewind l q_737 (by decide), (List.forall_mem_cons.mpr ⟨v_Rd_pageLine l q_749 (by decide), (List.forall_mem_cons.mpr ⟨v_Rd_batchLine l q_770 (by decide), (List.forall_mem_cons.mpr ⟨v_Rd_indexLine l q_774 (by decide), (List.forall_mem_cons.mpr ⟨v_Rd_rowLine l q_802 (by decide), (List.forall_mem_cons.mpr ⟨v_Rd_pointLine l q_814 (by decide), (List.forall_mem_cons.mpr ⟨v_Rd_takeSingle l q_753 (by decide), (List.forall_mem_cons.mpr ⟨v_Rd_whereLine l q_819 (by decide), (List.forall_mem_cons.mpr ⟨v_Rd_wrong l q_757 (by decide), (fun _ h => absurd h List.not_mem_nil)⟩)⟩)⟩)⟩)⟩)⟩)⟩)⟩)⟩)⟩) (fun _ h => absurd h List.not_mem_nil) (fun _ h => absurd h List.not_mem_nil)) (by decide +kernel) rfl (cats := [1, 1]) (fun as h r e => ⟨(mm_ga_inv e).1, (mm_gd_inv (mm_ga_inv e).2).1⟩) rfl (by decide)
theorem v_Rd_readPlan (l : Launch) {own : String} {i n0 : Nat} (hl : Cond.methodLink own i yX6_readPlan ∈ mm_tbl) (hn : 7 ≤ n0) : mm_cok l own n0 i (0, 1, 1, f_Rd_readPlan) := Or.inr (Or.inr ⟨rfl, yX6_readPlan, cX6_readPlan, 4, (some .int), 6, 6, TX6, 6, i_Rd_readPlan l, hn, by decide, by decide +kernel, rfl, fun _ _ _ e => (mm_gd_inv (mm_ga_inv e).2).2, hl, q_730, q_731, q_169, q_732⟩)
def p_Rd_takeIndexName : mm_P := ([(0, .aload_n 0, 1, 0), (1, .getfield 35, 3, 0), (4, .invokevirtual 124, 3, 0), (7, .ifCond .ne 9, 3, 0), (10, .aload_n 0, 1, 0), (11, .iconst 1, 1, 1), (12, .invokevirtual 83, 3, 0), (15, .ireturn, 1, 0), (16, .aload_n 0, 1, 0), (17, .aload_n 0, 1, 0), (18, .getfield 12, 3, 0), (21, .aload_n 0, 1, 0), (22, .getfield 35, 3, 0), (25, .getfield 127, 3, 0), (28, .invokevirtual 131, 3, 0), (31, .putfield 29, 3, 0), (34, .aload_n 0, 1, 0), (35, .getfield 29, 3, 0), (38, .iconst (-1), 1, (-1)), (39, .if_icmp .ne 9, 3, 0), (42, .aload_n 0, 1, 0), (43, .iconst 2, 1, 2), (44, .invokevirtual 83, 3, 0), (47, .ireturn, 1, 0), (48, .aload_n 0, 1, 0), (49, .getfield 35, 3, 0), (52, .invokevirtual 99, 3, 0), (55, .iconst 1, 1, 1), (56, .ireturn, 1, 0)], [(12, 6, 1, 2), (29, 6, 4, 0), (35, 6, 0, 4), (127, 9, 8, 3)], [(83, 0, 1, 1, f_Rd_wrong), (99, 0, 0, 0, f_Tp_readOn), (124, 0, 0, 1, f_Tp_isName), (131, 0, 1, 1, f_Pl_named)], [], [], [(0, [0])], [], 1)
def f_Rd_takeIndexName : mm_F := fun args h => mm_ga [1] args (mm_gd 6 args h (mm_run p_Rd_takeIndexName (mm_fu + 1) 0 args [] h))
set_option maxRecDepth 100000 in
theorem e_Rd_takeIndexName_0 (f : Nat) (t : Nat) (h : mm_H) : mm_run p_Rd_takeIndexName (f + 1) 0 [.ref t] [] h =
  (mm_gr 6 0 h t).bind fun r1 =>
  mm_ci (f_Tp_isName [.ref r1] h) fun x3 h2 =>
  if x3 = 0 then
    mm_ci (f_Rd_wrong [.ref t, .int 1] h2) fun x5 h4 =>
    if x5 = 0 ∨ x5 = 1 then some (some (.int x5), h4) else none
  else
    (mm_gr 6 1 h2 t).bind fun r6 =>
    (mm_gr 6 0 h2 t).bind fun r7 =>
    (mm_gl 9 8 h2 r7).bind fun l8 =>
    mm_ci (f_Pl_named [.ref r6, .long l8] h2) fun x10 h9 =>
    (mm_pf 6 4 (.int x10) h9 t).bind fun h11 =>
    (mm_gi 6 4 h11 t).bind fun x12 =>
    if x12 = (-1) then
      mm_ci (f_Rd_wrong [.ref t, .int 2] h11) fun x14 h13 =>
      if x14 = 0 ∨ x14 = 1 then some (some (.int x14), h13) else none
    else
      (mm_gr 6 0 h11 t).bind fun r15 =>
      mm_cv (f_Tp_readOn [.ref r15] h11) fun h16 =>
      some (some (.int 1), h16) := rfl
theorem e_Rd_takeIndexName (t : Nat) (h : mm_H) {fs : List Value} (hb : h t = some (.inr (6, fs))) : f_Rd_takeIndexName [.ref t] h =
  (mm_gr 6 0 h t).bind fun r1 =>
  mm_ci (f_Tp_isName [.ref r1] h) fun x3 h2 =>
  if x3 = 0 then
    mm_ci (f_Rd_wrong [.ref t, .int 1] h2) fun x5 h4 =>
    if x5 = 0 ∨ x5 = 1 then some (some (.int x5), h4) else none
  else
    (mm_gr 6 1 h2 t).bind fun r6 =>
    (mm_gr 6 0 h2 t).bind fun r7 =>
    (mm_gl 9 8 h2 r7).bind fun l8 =>
    mm_ci (f_Pl_named [.ref r6, .long l8] h2) fun x10 h9 =>
    (mm_pf 6 4 (.int x10) h9 t).bind fun h11 =>
    (mm_gi 6 4 h11 t).bind fun x12 =>
    if x12 = (-1) then
      mm_ci (f_Rd_wrong [.ref t, .int 2] h11) fun x14 h13 =>
      if x14 = 0 ∨ x14 = 1 then some (some (.int x14), h13) else none
    else
      (mm_gr 6 0 h11 t).bind fun r15 =>
      mm_cv (f_Tp_readOn [.ref r15] h11) fun h16 =>
      some (some (.int 1), h16) := (mm_ga_is rfl).trans ((mm_gd_is hb).trans (e_Rd_takeIndexName_0 mm_fu t h))
set_option maxRecDepth 100000 in
theorem i_Rd_takeIndexName (l : Launch) : mm_Imp l yX6_takeIndexName cX6_takeIndexName 1 (some .boolean) 3 f_Rd_takeIndexName := mm_imp l (P := p_Rd_takeIndexName) mm_cls_ok mm_sys_ok (by decide) (mm_Pok_of (List.forall_mem_cons.mpr ⟨k_X6_12, (List.forall_mem_cons.mpr ⟨k_X6_29, (List.forall_mem_cons.mpr ⟨k_X6_35, (List.forall_mem_cons.mpr ⟨k_X6_127, (fun _ h => absurd h List.not_mem_nil)⟩)⟩)⟩)⟩) (List.forall_mem_cons.mpr ⟨v_Rd_wrong l q_757 (by decide), (List.forall_mem_cons.mpr ⟨v_Tp_readOn l q_761 (by decide), (List.forall_mem_cons.mpr ⟨v_Tp_isName l q_778 (by decide), (List.forall_mem_cons.mpr ⟨v_Pl_named l q_782 (by decide), (fun _ h => absurd h List.not_mem_nil)⟩)⟩)⟩)⟩) (fun _ h => absurd h List.not_mem_nil) (fun _ h => absurd h List.not_mem_nil)) (by decide +kernel) rfl (cats := [1]) (fun as h r e => ⟨(mm_ga_inv e).1, (mm_gd_inv (mm_ga_inv e).2).1⟩) rfl (by decide)
theorem v_Rd_takeIndexName (l : Launch) {own : String} {i n0 : Nat} (hl : Cond.methodLink own i yX6_takeIndexName ∈ mm_tbl) (hn : 4 ≤ n0) : mm_cok l own n0 i (0, 0, 1, f_Rd_takeIndexName) := Or.inr (Or.inr ⟨rfl, yX6_takeIndexName, cX6_takeIndexName, 1, (some .boolean), 3, 6, TX6, 6, i_Rd_takeIndexName l, hn, by decide, by decide +kernel, rfl, fun _ _ _ e => (mm_gd_inv (mm_ga_inv e).2).2, hl, q_954, q_26, q_169, q_955⟩)
def p_Rd_workNumbers : mm_P := ([(0, .aload_n 0, 1, 0), (1, .getfield 21, 3, 0), (4, .getfield 204, 3, 0), (7, .iload_n 1, 1, 0), (8, .iaload, 1, 0), (9, .tableswitch 317 9 17 #[51, 138, 170, 317, 256, 317, 317, 317, 288], 51, 0), (60, .aload_n 0, 1, 0), (61, .iconst 0, 1, 0), (62, .sipush 999, 3, 999), (65, .invokevirtual 106, 3, 0), (68, .ifCond .eq 77, 3, 0), (71, .aload_n 0, 1, 0), (72, .getfield 21, 3, 0), (75, .iload_n 1, 1, 0), (76, .iconst 0, 1, 0), (77, .aload_n 0, 1, 0), (78, .getfield 29, 3, 0), (81, .invokevirtual 210, 3, 0), (84, .ifCond .eq 61, 3, 0), (87, .aload_n 0, 1, 0), (88, .iconst 0, 1, 0), (89, .sipush 999, 3, 999), (92, .invokevirtual 106, 3, 0), (95, .ifCond .eq 50, 3, 0), (98, .aload_n 0, 1, 0), (99, .getfield 21, 3, 0), (102, .iload_n 1, 1, 0), (103, .iconst 1, 1, 1), (104, .aload_n 0, 1, 0), (105, .getfield 29, 3, 0), (108, .invokevirtual 210, 3, 0), (111, .ifCond .eq 34, 3, 0), (114, .aload_n 0, 1, 0), (115, .iconst 0, 1, 0), (116, .sipush 999, 3, 999), (119, .invokevirtual 106, 3, 0), (122, .ifCond .eq 23, 3, 0), (125, .aload_n 0, 1, 0), (126, .getfield 21, 3, 0), (129, .iload_n 1, 1, 0), (130, .iconst 2, 1, 2), (131, .aload_n 0, 1, 0), (132, .getfield 29, 3, 0), (135, .invokevirtual 210, 3, 0), (138, .ifCond .eq 7, 3, 0), (141, .iconst 1, 1, 1), (142, .goto 4, 3, 0), (145, .iconst 0, 1, 0), (146, .ireturn, 1, 0), (147, .aload_n 0, 1, 0), (148, .iconst 0, 1, 0), (149, .bipush 29, 2, 29), (151, .invokevirtual 106, 3, 0), (154, .ifCond .eq 23, 3, 0), (157, .aload_n 0, 1, 0), (158, .getfield 21, 3, 0), (161, .iload_n 1, 1, 0), (162, .iconst 0, 1, 0), (163, .aload_n 0, 1, 0), (164, .getfield 29, 3, 0), (167, .invokevirtual 210, 3, 0), (170, .ifCond .eq 7, 3, 0), (173, .iconst 1, 1, 1), (174, .goto 4, 3, 0), (177, .iconst 0, 1, 0), (178, .ireturn, 1, 0), (179, .aload_n 0, 1, 0), (180, .iconst 0, 1, 0), (181, .bipush 29, 2, 29), (183, .invokevirtual 106, 3, 0), (186, .ifCond .eq 77, 3, 0), (189, .aload_n 0, 1, 0), (190, .getfield 21, 3, 0), (193, .iload_n 1, 1, 0), (194, .iconst 0, 1, 0), (195, .aload_n 0, 1, 0), (196, .getfield 29, 3, 0), (199, .invokevirtual 210, 3, 0), (202, .ifCond .eq 61, 3, 0), (205, .aload_n 0, 1, 0), (206, .bipush 25, 2, 25), (208, .bipush 27, 2, 27), (210, .invokevirtual 139, 3, 0), (213, .ifCond .eq 50, 3, 0), (216, .aload_n 0, 1, 0), (217, .getfield 21, 3, 0), (220, .iload_n 1, 1, 0), (221, .iconst 1, 1, 1), (222, .aload_n 0, 1, 0), (223, .getfield 29, 3, 0), (226, .invokevirtual 210, 3, 0), (229, .ifCond .eq 34, 3, 0), (232, .aload_n 0, 1, 0), (233, .iconst 0, 1, 0), (234, .sipush 999, 3, 999), (237, .invokevirtual 106, 3, 0), (240, .ifCond .eq 23, 3, 0), (243, .aload_n 0, 1, 0), (244, .getfield 21, 3, 0), (247, .iload_n 1, 1, 0), (248, .iconst 2, 1, 2), (249, .aload_n 0, 1, 0), (250, .getfield 29, 3, 0), (253, .invokevirtual 210, 3, 0), (256, .ifCond .eq 7, 3, 0), (259, .iconst 1, 1, 1), (260, .goto 4, 3, 0), (263, .iconst 0, 1, 0), (264, .ireturn, 1, 0), (265, .aload_n 0, 1, 0), (266, .iconst 1, 1, 1), (267, .bipush 99, 2, 99), (269, .invokevirtual 106, 3, 0), (272, .ifCond .eq 23, 3, 0), (275, .aload_n 0, 1, 0), (276, .getfield 21, 3, 0), (279, .iload_n 1, 1, 0), (280, .iconst 0, 1, 0), (281, .aload_n 0, 1, 0), (282, .getfield 29, 3, 0), (285, .invokevirtual 210, 3, 0), (288, .ifCond .eq 7, 3, 0), (291, .iconst 1, 1, 1), (292, .goto 4, 3, 0), (295, .iconst 0, 1, 0), (296, .ireturn, 1, 0), (297, .aload_n 0, 1, 0), (298, .invokevirtual 213, 3, 0), (301, .ifCond .eq 23, 3, 0), (304, .aload_n 0, 1, 0), (305, .getfield 21, 3, 0), (308, .iload_n 1, 1, 0), (309, .iconst 0, 1, 0), (310, .aload_n 0, 1, 0), (311, .getfield 29, 3, 0), (314, .invokevirtual 210, 3, 0), (317, .ifCond .eq 7, 3, 0), (320, .iconst 1, 1, 1), (321, .goto 4, 3, 0), (324, .iconst 0, 1, 0), (325, .ireturn, 1, 0), (326, .iconst 1, 1, 1), (327, .ireturn, 1, 0)], [(21, 6, 2, 2), (29, 6, 4, 0), (204, 3, 0, 4)], [(106, 0, 2, 1, f_Rd_takeNumber), (139, 0, 2, 1, f_Rd_takeOneOf), (210, 0, 3, 1, f_Ln_keep), (213, 0, 0, 1, f_Rd_takeIndexName)], [], [], [(0, [0, 1])], [(9, [(9, 60), (10, 147), (11, 179), (12, 326), (13, 265), (14, 326), (15, 326), (16, 326), (17, 297)], 326)], 1)
def f_Rd_workNumbers : mm_F := fun args h => mm_ga [1, 1] args (mm_gd 6 args h (mm_run p_Rd_workNumbers (mm_fu + 1) 0 args [] h))
set_option maxRecDepth 100000 in
theorem e_Rd_workNumbers_0 (f : Nat) (t : Nat) (v1 : Int32) (h : mm_H) : mm_run p_Rd_workNumbers (f + 1) 0 [.ref t, .int v1] [] h =
  (mm_gr 6 2 h t).bind fun r1 =>
  (mm_gr 3 0 h r1).bind fun r2 =>
  (mm_li h r2 v1).bind fun x3 =>
  if x3 = 9 then
    mm_ci (f_Rd_takeNumber [.ref t, .int 0, .int 999] h) fun x5 h4 =>
    if x5 = 0 then
      some (some (.int 0), h4)
    else
      (mm_gr 6 2 h4 t).bind fun r6 =>
      (mm_gi 6 4 h4 t).bind fun x7 =>
      mm_ci (f_Ln_keep [.ref r6, .int v1, .int 0, .int x7] h4) fun x9 h8 =>
      if x9 = 0 then
        some (some (.int 0), h8)
      else
        mm_ci (f_Rd_takeNumber [.ref t, .int 0, .int 999] h8) fun x11 h10 =>
        if x11 = 0 then
          some (some (.int 0), h10)
        else
          (mm_gr 6 2 h10 t).bind fun r12 =>
          (mm_gi 6 4 h10 t).bind fun x13 =>
          mm_ci (f_Ln_keep [.ref r12, .int v1, .int 1, .int x13] h10) fun x15 h14 =>
          if x15 = 0 then
            some (some (.int 0), h14)
          else
            mm_ci (f_Rd_takeNumber [.ref t, .int 0, .int 999] h14) fun x17 h16 =>
            if x17 = 0 then
              some (some (.int 0), h16)
            else
              (mm_gr 6 2 h16 t).bind fun r18 =>
              (mm_gi 6 4 h16 t).bind fun x19 =>
              mm_ci (f_Ln_keep [.ref r18, .int v1, .int 2, .int x19] h16) fun x21 h20 =>
              if x21 = 0 then
                some (some (.int 0), h20)
              else
                some (some (.int 1), h20)
  else if x3 = 10 then
    mm_ci (f_Rd_takeNumber [.ref t, .int 0, .int 29] h) fun x23 h22 =>
    if x23 = 0 then
      some (some (.int 0), h22)
    else
      (mm_gr 6 2 h22 t).bind fun r24 =>
      (mm_gi 6 4 h22 t).bind fun x25 =>
      mm_ci (f_Ln_keep [.ref r24, .int v1, .int 0, .int x25] h22) fun x27 h26 =>
      if x27 = 0 then
        some (some (.int 0), h26)
      else
        some (some (.int 1), h26)
  else if x3 = 11 then
    mm_ci (f_Rd_takeNumber [.ref t, .int 0, .int 29] h) fun x29 h28 =>
    if x29 = 0 then
      some (some (.int 0), h28)
    else
      (mm_gr 6 2 h28 t).bind fun r30 =>
      (mm_gi 6 4 h28 t).bind fun x31 =>
      mm_ci (f_Ln_keep [.ref r30, .int v1, .int 0, .int x31] h28) fun x33 h32 =>
      if x33 = 0 then
        some (some (.int 0), h32)
      else
        mm_ci (f_Rd_takeOneOf [.ref t, .int 25, .int 27] h32) fun x35 h34 =>
        if x35 = 0 then
          some (some (.int 0), h34)
        else
          (mm_gr 6 2 h34 t).bind fun r36 =>
          (mm_gi 6 4 h34 t).bind fun x37 =>
          mm_ci (f_Ln_keep [.ref r36, .int v1, .int 1, .int x37] h34) fun x39 h38 =>
          if x39 = 0 then
            some (some (.int 0), h38)
          else
            mm_ci (f_Rd_takeNumber [.ref t, .int 0, .int 999] h38) fun x41 h40 =>
            if x41 = 0 then
              some (some (.int 0), h40)
            else
              (mm_gr 6 2 h40 t).bind fun r42 =>
              (mm_gi 6 4 h40 t).bind fun x43 =>
              mm_ci (f_Ln_keep [.ref r42, .int v1, .int 2, .int x43] h40) fun x45 h44 =>
              if x45 = 0 then
                some (some (.int 0), h44)
              else
                some (some (.int 1), h44)
  else if x3 = 12 then
    some (some (.int 1), h)
  else if x3 = 13 then
    mm_ci (f_Rd_takeNumber [.ref t, .int 1, .int 99] h) fun x47 h46 =>
    if x47 = 0 then
      some (some (.int 0), h46)
    else
      (mm_gr 6 2 h46 t).bind fun r48 =>
      (mm_gi 6 4 h46 t).bind fun x49 =>
      mm_ci (f_Ln_keep [.ref r48, .int v1, .int 0, .int x49] h46) fun x51 h50 =>
      if x51 = 0 then
        some (some (.int 0), h50)
      else
        some (some (.int 1), h50)
  else if x3 = 14 then
    some (some (.int 1), h)
  else if x3 = 15 then
    some (some (.int 1), h)
  else if x3 = 16 then
    some (some (.int 1), h)
  else if x3 = 17 then
    mm_ci (f_Rd_takeIndexName [.ref t] h) fun x53 h52 =>
    if x53 = 0 then
      some (some (.int 0), h52)
    else
      (mm_gr 6 2 h52 t).bind fun r54 =>
      (mm_gi 6 4 h52 t).bind fun x55 =>
      mm_ci (f_Ln_keep [.ref r54, .int v1, .int 0, .int x55] h52) fun x57 h56 =>
      if x57 = 0 then
        some (some (.int 0), h56)
      else
        some (some (.int 1), h56)
  else 
    some (some (.int 1), h) := rfl
theorem e_Rd_workNumbers (t : Nat) (v1 : Int32) (h : mm_H) {fs : List Value} (hb : h t = some (.inr (6, fs))) : f_Rd_workNumbers [.ref t, .int v1] h =
  (mm_gr 6 2 h t).bind fun r1 =>
  (mm_gr 3 0 h r1).bind fun r2 =>
  (mm_li h r2 v1).bind fun x3 =>
  if x3 = 9 then
    mm_ci (f_Rd_takeNumber [.ref t, .int 0, .int 999] h) fun x5 h4 =>
    if x5 = 0 then
      some (some (.int 0), h4)
    else
      (mm_gr 6 2 h4 t).bind fun r6 =>
      (mm_gi 6 4 h4 t).bind fun x7 =>
      mm_ci (f_Ln_keep [.ref r6, .int v1, .int 0, .int x7] h4) fun x9 h8 =>
      if x9 = 0 then
        some (some (.int 0), h8)
      else
        mm_ci (f_Rd_takeNumber [.ref t, .int 0, .int 999] h8) fun x11 h10 =>
        if x11 = 0 then
          some (some (.int 0), h10)
        else
          (mm_gr 6 2 h10 t).bind fun r12 =>
          (mm_gi 6 4 h10 t).bind fun x13 =>
          mm_ci (f_Ln_keep [.ref r12, .int v1, .int 1, .int x13] h10) fun x15 h14 =>
          if x15 = 0 then
            some (some (.int 0), h14)
          else
            mm_ci (f_Rd_takeNumber [.ref t, .int 0, .int 999] h14) fun x17 h16 =>
            if x17 = 0 then
              some (some (.int 0), h16)
            else
              (mm_gr 6 2 h16 t).bind fun r18 =>
              (mm_gi 6 4 h16 t).bind fun x19 =>
              mm_ci (f_Ln_keep [.ref r18, .int v1, .int 2, .int x19] h16) fun x21 h20 =>
              if x21 = 0 then
                some (some (.int 0), h20)
              else
                some (some (.int 1), h20)
  else if x3 = 10 then
    mm_ci (f_Rd_takeNumber [.ref t, .int 0, .int 29] h) fun x23 h22 =>
    if x23 = 0 then
      some (some (.int 0), h22)
    else
      (mm_gr 6 2 h22 t).bind fun r24 =>
      (mm_gi 6 4 h22 t).bind fun x25 =>
      mm_ci (f_Ln_keep [.ref r24, .int v1, .int 0, .int x25] h22) fun x27 h26 =>
      if x27 = 0 then
        some (some (.int 0), h26)
      else
        some (some (.int 1), h26)
  else if x3 = 11 then
    mm_ci (f_Rd_takeNumber [.ref t, .int 0, .int 29] h) fun x29 h28 =>
    if x29 = 0 then
      some (some (.int 0), h28)
    else
      (mm_gr 6 2 h28 t).bind fun r30 =>
      (mm_gi 6 4 h28 t).bind fun x31 =>
      mm_ci (f_Ln_keep [.ref r30, .int v1, .int 0, .int x31] h28) fun x33 h32 =>
      if x33 = 0 then
        some (some (.int 0), h32)
      else
        mm_ci (f_Rd_takeOneOf [.ref t, .int 25, .int 27] h32) fun x35 h34 =>
        if x35 = 0 then
          some (some (.int 0), h34)
        else
          (mm_gr 6 2 h34 t).bind fun r36 =>
          (mm_gi 6 4 h34 t).bind fun x37 =>
          mm_ci (f_Ln_keep [.ref r36, .int v1, .int 1, .int x37] h34) fun x39 h38 =>
          if x39 = 0 then
            some (some (.int 0), h38)
          else
            mm_ci (f_Rd_takeNumber [.ref t, .int 0, .int 999] h38) fun x41 h40 =>
            if x41 = 0 then
              some (some (.int 0), h40)
            else
              (mm_gr 6 2 h40 t).bind fun r42 =>
              (mm_gi 6 4 h40 t).bind fun x43 =>
              mm_ci (f_Ln_keep [.ref r42, .int v1, .int 2, .int x43] h40) fun x45 h44 =>
              if x45 = 0 then
                some (some (.int 0), h44)
              else
                some (some (.int 1), h44)
  else if x3 = 12 then
    some (some (.int 1), h)
  else if x3 = 13 then
    mm_ci (f_Rd_takeNumber [.ref t, .int 1, .int 99] h) fun x47 h46 =>
    if x47 = 0 then
      some (some (.int 0), h46)
    else
      (mm_gr 6 2 h46 t).bind fun r48 =>
      (mm_gi 6 4 h46 t).bind fun x49 =>
      mm_ci (f_Ln_keep [.ref r48, .int v1, .int 0, .int x49] h46) fun x51 h50 =>
      if x51 = 0 then
        some (some (.int 0), h50)
      else
        some (some (.int 1), h50)
  else if x3 = 14 then
    some (some (.int 1), h)
  else if x3 = 15 then
    some (some (.int 1), h)
  else if x3 = 16 then
    some (some (.int 1), h)
  else if x3 = 17 then
    mm_ci (f_Rd_takeIndexName [.ref t] h) fun x53 h52 =>
    if x53 = 0 then
      some (some (.int 0), h52)
    else
      (mm_gr 6 2 h52 t).bind fun r54 =>
      (mm_gi 6 4 h52 t).bind fun x55 =>
      mm_ci (f_Ln_keep [.ref r54, .int v1, .int 0, .int x55] h52) fun x57 h56 =>
      if x57 = 0 then
        some (some (.int 0), h56)
      else
        some (some (.int 1), h56)
  else 
    some (some (.int 1), h) := (mm_ga_is rfl).trans ((mm_gd_is hb).trans (e_Rd_workNumbers_0 mm_fu t v1 h))
set_option maxRecDepth 100000 in
theorem i_Rd_workNumbers (l : Launch) : mm_Imp l yX6_workNumbers cX6_workNumbers 2 (some .boolean) 4 f_Rd_workNumbers := mm_imp l (P := p_Rd_workNumbers) mm_cls_ok mm_sys_ok (by decide) (mm_Pok_of (List.forall_mem_cons.mpr ⟨k_X6_21, (List.forall_mem_cons.mpr ⟨k_X6_29, (List.forall_mem_cons.mpr ⟨k_X6_204, (fun _ h => absurd h List.not_mem_nil)⟩)⟩)⟩) (List.forall_mem_cons.mpr ⟨v_Rd_takeNumber l q_762 (by decide), (List.forall_mem_cons.mpr ⟨v_Rd_takeOneOf l q_786 (by decide), (List.forall_mem_cons.mpr ⟨v_Ln_keep l q_948 (by decide), (List.forall_mem_cons.mpr ⟨v_Rd_takeIndexName l q_952 (by decide), (fun _ h => absurd h List.not_mem_nil)⟩)⟩)⟩)⟩) (fun _ h => absurd h List.not_mem_nil) (fun _ h => absurd h List.not_mem_nil)) (by decide +kernel) rfl (cats := [1, 1]) (fun as h r e => ⟨(mm_ga_inv e).1, (mm_gd_inv (mm_ga_inv e).2).1⟩) rfl (by decide)
theorem v_Rd_workNumbers (l : Launch) {own : String} {i n0 : Nat} (hl : Cond.methodLink own i yX6_workNumbers ∈ mm_tbl) (hn : 5 ≤ n0) : mm_cok l own n0 i (0, 1, 1, f_Rd_workNumbers) := Or.inr (Or.inr ⟨rfl, yX6_workNumbers, cX6_workNumbers, 2, (some .boolean), 4, 6, TX6, 6, i_Rd_workNumbers l, hn, by decide, by decide +kernel, rfl, fun _ _ _ e => (mm_gd_inv (mm_ga_inv e).2).2, hl, q_946, q_25, q_169, q_947⟩)
