/-! THE CLASS: rank, where it returns -/
def p_Ls_rank : mm_P := ([(0, .aload_n 0, 1, 0), (1, .iload_n 1, 1, 0), (2, .invokevirtual 132, 3, 0), (5, .ifCond .eq 14, 3, 0), (8, .aload_n 0, 1, 0), (9, .getfield 77, 3, 0), (12, .iload_n 1, 1, 0), (13, .invokevirtual 242, 3, 0), (16, .goto 4, 3, 0), (19, .iconst 0, 1, 0), (20, .istore_n 3, 1, 0), (21, .aload_n 0, 1, 0), (22, .getfield 77, 3, 0), (25, .getfield 108, 3, 0), (28, .iload_n 2, 1, 0), (29, .invokevirtual 112, 3, 0), (32, .ifCond .eq 11, 3, 0), (35, .iload_n 3, 1, 0), (36, .iload_n 2, 1, 0), (37, .ishr, 1, 0), (38, .iconst 1, 1, 1), (39, .iand, 1, 0), (40, .ifCond .ne 14, 3, 0), (54, .aload_n 0, 1, 0), (55, .getfield 77, 3, 0), (58, .iload_n 1, 1, 0), (59, .iload_n 2, 1, 0), (60, .invokevirtual 248, 3, 0), (63, .istore 4, 2, 0), (65, .iconst 0, 1, 0), (66, .istore 5, 2, 0), (68, .iconst 0, 1, 0), (69, .istore 6, 2, 0), (71, .iload 6, 2, 0), (73, .aload_n 0, 1, 0), (74, .getfield 77, 3, 0), (77, .getfield 108, 3, 0), (80, .getfield 245, 3, 0), (83, .if_icmp .ge 36, 3, 0), (86, .iload_n 3, 1, 0), (87, .iload 6, 2, 0), (89, .ishr, 1, 0), (90, .iconst 1, 1, 1), (91, .iand, 1, 0), (92, .ifCond .eq 21, 3, 0), (95, .aload_n 0, 1, 0), (96, .getfield 77, 3, 0), (99, .iload_n 1, 1, 0), (100, .iload 6, 2, 0), (102, .invokevirtual 248, 3, 0), (105, .iload 4, 2, 0), (107, .if_icmp .ge 6, 3, 0), (110, .iinc 5 1, 3, 1), (113, .iinc 6 1, 3, 1), (116, .goto (-45), 3, 0), (119, .iload 5, 2, 0), (121, .ireturn, 1, 0)], [(77, 11, 13, 2), (108, 8, 0, 4), (245, 7, 1, 0)], [(112, 0, 1, 1, f_Rw_hasCome), (132, 0, 1, 1, f_Ls_isIndex), (242, 0, 1, 1, f_St_readable), (248, 0, 2, 1, f_St_codeOf)], [], [], [(0, [0, 1, 2]), (43, []), (71, [0, 1, 3, 4, 5, 6])], [], 2)
def f_Ls_rank : mm_F := fun args h => mm_ga [1, 1, 1] args (mm_gd 11 args h (mm_run p_Ls_rank (mm_fu + 1) 0 args [] h))
set_option maxRecDepth 100000 in
theorem e_Ls_rank_0 (f : Nat) (t : Nat) (v1 : Int32) (v2 : Int32) (h : mm_H) : mm_run p_Ls_rank (f + 1) 0 [.ref t, .int v1, .int v2] [] h =
  mm_ci (f_Ls_isIndex [.ref t, .int v1] h) fun x2 h1 =>
  if x2 = 0 then
    (mm_gr 11 13 h1 t).bind fun r3 =>
    (mm_gr 8 0 h1 r3).bind fun r4 =>
    mm_ci (f_Rw_hasCome [.ref r4, .int v2] h1) fun x6 h5 =>
    if x6 = 0 then
      mm_run p_Ls_rank f 43 [] [] h5
    else
      if ((0 >>> (v2 &&& 31)) &&& 1) = 0 then
        mm_run p_Ls_rank f 43 [] [] h5
      else
        (mm_gr 11 13 h5 t).bind fun r7 =>
        mm_ci (f_St_codeOf [.ref r7, .int v1, .int v2] h5) fun x9 h8 =>
        mm_run p_Ls_rank f 71 [.ref t, .int v1, .int 0, .int x9, .int 0, .int 0] [] h8
  else
    (mm_gr 11 13 h1 t).bind fun r10 =>
    mm_ci (f_St_readable [.ref r10, .int v1] h1) fun x12 h11 =>
    (mm_gr 11 13 h11 t).bind fun r13 =>
    (mm_gr 8 0 h11 r13).bind fun r14 =>
    mm_ci (f_Rw_hasCome [.ref r14, .int v2] h11) fun x16 h15 =>
    if x16 = 0 then
      mm_run p_Ls_rank f 43 [] [] h15
    else
      if ((x12 >>> (v2 &&& 31)) &&& 1) = 0 then
        mm_run p_Ls_rank f 43 [] [] h15
      else
        (mm_gr 11 13 h15 t).bind fun r17 =>
        mm_ci (f_St_codeOf [.ref r17, .int v1, .int v2] h15) fun x19 h18 =>
        mm_run p_Ls_rank f 71 [.ref t, .int v1, .int x12, .int x19, .int 0, .int 0] [] h18 := rfl
theorem e_Ls_rank (t : Nat) (v1 : Int32) (v2 : Int32) (h : mm_H) {fs : List Value} (hb : h t = some (.inr (11, fs))) : f_Ls_rank [.ref t, .int v1, .int v2] h =
  mm_ci (f_Ls_isIndex [.ref t, .int v1] h) fun x2 h1 =>
  if x2 = 0 then
    (mm_gr 11 13 h1 t).bind fun r3 =>
    (mm_gr 8 0 h1 r3).bind fun r4 =>
    mm_ci (f_Rw_hasCome [.ref r4, .int v2] h1) fun x6 h5 =>
    if x6 = 0 then
      mm_run p_Ls_rank mm_fu 43 [] [] h5
    else
      if ((0 >>> (v2 &&& 31)) &&& 1) = 0 then
        mm_run p_Ls_rank mm_fu 43 [] [] h5
      else
        (mm_gr 11 13 h5 t).bind fun r7 =>
        mm_ci (f_St_codeOf [.ref r7, .int v1, .int v2] h5) fun x9 h8 =>
        mm_run p_Ls_rank mm_fu 71 [.ref t, .int v1, .int 0, .int x9, .int 0, .int 0] [] h8
  else
    (mm_gr 11 13 h1 t).bind fun r10 =>
    mm_ci (f_St_readable [.ref r10, .int v1] h1) fun x12 h11 =>
    (mm_gr 11 13 h11 t).bind fun r13 =>
    (mm_gr 8 0 h11 r13).bind fun r14 =>
    mm_ci (f_Rw_hasCome [.ref r14, .int v2] h11) fun x16 h15 =>
    if x16 = 0 then
      mm_run p_Ls_rank mm_fu 43 [] [] h15
    else
      if ((x12 >>> (v2 &&& 31)) &&& 1) = 0 then
        mm_run p_Ls_rank mm_fu 43 [] [] h15
      else
        (mm_gr 11 13 h15 t).bind fun r17 =>
        mm_ci (f_St_codeOf [.ref r17, .int v1, .int v2] h15) fun x19 h18 =>
        mm_run p_Ls_rank mm_fu 71 [.ref t, .int v1, .int x12, .int x19, .int 0, .int 0] [] h18 := (mm_ga_is rfl).trans ((mm_gd_is hb).trans (e_Ls_rank_0 mm_fu t v1 v2 h))
set_option maxRecDepth 100000 in
theorem e_Ls_rank_43 (f : Nat) (h : mm_H) : mm_run p_Ls_rank (f + 1) 43 [] [] h =
  none := rfl
set_option maxRecDepth 100000 in
theorem e_Ls_rank_71 (f : Nat) (t : Nat) (v1 : Int32) (v3 : Int32) (v4 : Int32) (v5 : Int32) (v6 : Int32) (h : mm_H) : mm_run p_Ls_rank (f + 1) 71 [.ref t, .int v1, .int v3, .int v4, .int v5, .int v6] [] h =
  (mm_gr 11 13 h t).bind fun r1 =>
  (mm_gr 8 0 h r1).bind fun r2 =>
  (mm_gi 7 1 h r2).bind fun x3 =>
  if v6 < x3 then
    if ((v3 >>> (v6 &&& 31)) &&& 1) = 0 then
      mm_run p_Ls_rank f 71 [.ref t, .int v1, .int v3, .int v4, .int v5, .int (v6 + 1)] [] h
    else
      (mm_gr 11 13 h t).bind fun r4 =>
      mm_ci (f_St_codeOf [.ref r4, .int v1, .int v6] h) fun x6 h5 =>
      if x6 < v4 then
        mm_run p_Ls_rank f 71 [.ref t, .int v1, .int v3, .int v4, .int (v5 + 1), .int (v6 + 1)] [] h5
      else
        mm_run p_Ls_rank f 71 [.ref t, .int v1, .int v3, .int v4, .int v5, .int (v6 + 1)] [] h5
  else
    some (some (.int v5), h) := rfl
set_option maxRecDepth 100000 in
theorem i_Ls_rank (l : Launch) : mm_Imp l yX11_rank cX11_rank 7 (some .int) 6 f_Ls_rank := mm_imp l (P := p_Ls_rank) mm_cls_ok mm_sys_ok (by decide) (mm_Pok_of (List.forall_mem_cons.mpr ⟨k_X11_77, (List.forall_mem_cons.mpr ⟨k_X11_108, (List.forall_mem_cons.mpr ⟨k_X11_245, (fun _ h => absurd h List.not_mem_nil)⟩)⟩)⟩) (List.forall_mem_cons.mpr ⟨v_Rw_hasCome l q_960 (by decide), (List.forall_mem_cons.mpr ⟨v_Ls_isIndex l q_974 (by decide), (List.forall_mem_cons.mpr ⟨v_St_readable l q_1343 (by decide), (List.forall_mem_cons.mpr ⟨v_St_codeOf l q_1359 (by decide), (fun _ h => absurd h List.not_mem_nil)⟩)⟩)⟩)⟩) (fun _ h => absurd h List.not_mem_nil) (fun _ h => absurd h List.not_mem_nil)) (by decide +kernel) rfl (cats := [1, 1, 1]) (fun as h r e => ⟨(mm_ga_inv e).1, (mm_gd_inv (mm_ga_inv e).2).1⟩) rfl (by decide)
theorem v_Ls_rank (l : Launch) {own : String} {i n0 : Nat} (hl : Cond.methodLink own i yX11_rank ∈ mm_tbl) (hn : 7 ≤ n0) : mm_cok l own n0 i (0, 2, 1, f_Ls_rank) := Or.inr (Or.inr ⟨rfl, yX11_rank, cX11_rank, 7, (some .int), 6, 11, TX11, 16, i_Ls_rank l, hn, by decide, by decide +kernel, rfl, fun _ _ _ e => (mm_gd_inv (mm_ga_inv e).2).2, hl, q_1606, q_1607, q_163, q_1608⟩)
set_option maxRecDepth 100000 in
theorem o_Ls_rank {ρ : Type} (kr : Option Value → mm_H → Option ρ) (kc : Nat → List Value → List Value → mm_H → Option ρ) (t : Nat) (v1 : Int32) (v2 : Int32) (h : mm_H) : mm_one p_Ls_rank kr kc 0 [.ref t, .int v1, .int v2] [] h =
  mm_ci (f_Ls_isIndex [.ref t, .int v1] h) fun x2 h1 =>
  if x2 = 0 then
    (mm_gr 11 13 h1 t).bind fun r3 =>
    (mm_gr 8 0 h1 r3).bind fun r4 =>
    mm_ci (f_Rw_hasCome [.ref r4, .int v2] h1) fun x6 h5 =>
    if x6 = 0 then
      kc 43 [] [] h5
    else
      if ((0 >>> (v2 &&& 31)) &&& 1) = 0 then
        kc 43 [] [] h5
      else
        (mm_gr 11 13 h5 t).bind fun r7 =>
        mm_ci (f_St_codeOf [.ref r7, .int v1, .int v2] h5) fun x9 h8 =>
        kc 71 [.ref t, .int v1, .int 0, .int x9, .int 0, .int 0] [] h8
  else
    (mm_gr 11 13 h1 t).bind fun r10 =>
    mm_ci (f_St_readable [.ref r10, .int v1] h1) fun x12 h11 =>
    (mm_gr 11 13 h11 t).bind fun r13 =>
    (mm_gr 8 0 h11 r13).bind fun r14 =>
    mm_ci (f_Rw_hasCome [.ref r14, .int v2] h11) fun x16 h15 =>
    if x16 = 0 then
      kc 43 [] [] h15
    else
      if ((x12 >>> (v2 &&& 31)) &&& 1) = 0 then
        kc 43 [] [] h15
      else
        (mm_gr 11 13 h15 t).bind fun r17 =>
        mm_ci (f_St_codeOf [.ref r17, .int v1, .int v2] h15) fun x19 h18 =>
        kc 71 [.ref t, .int v1, .int x12, .int x19, .int 0, .int 0] [] h18 := rfl
