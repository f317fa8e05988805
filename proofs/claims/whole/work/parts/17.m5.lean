def p_Md_remove : mm_P := ([(0, .aload_n 0, 1, 0), (1, .iconst 0, 1, 0), (2, .putfield 1, 3, 0), (5, .aload_n 0, 1, 0), (6, .invokevirtual 458, 3, 0), (9, .aload_n 0, 1, 0), (10, .iconst 0, 1, 0), (11, .iload_n 1, 1, 0), (12, .invokevirtual 470, 3, 0), (15, .istore_n 2, 1, 0), (16, .aload_n 0, 1, 0), (17, .iload_n 2, 1, 0), (18, .invokevirtual 473, 3, 0), (21, .ireturn, 1, 0)], [(1, 12, 0, 0)], [(458, 0, 0, 0, f_Md_aside), (470, 0, 2, 1, f_Md_removed), (473, 0, 1, 1, f_Md_isDone)], [], [], [(0, [0, 1])], [], 1)
def f_Md_remove : mm_F := fun args h => mm_ga [1, 1] args (mm_gd 12 args h (mm_run p_Md_remove (mm_fu + 1) 0 args [] h))
set_option maxRecDepth 100000 in
theorem e_Md_remove_0 (f : Nat) (t : Nat) (v1 : Int32) (h : mm_H) : mm_run p_Md_remove (f + 1) 0 [.ref t, .int v1] [] h =
  (mm_pf 12 0 (.int 0) h t).bind fun h1 =>
  mm_cv (f_Md_aside [.ref t] h1) fun h2 =>
  mm_ci (f_Md_removed [.ref t, .int 0, .int v1] h2) fun x4 h3 =>
  mm_ci (f_Md_isDone [.ref t, .int x4] h3) fun x6 h5 =>
  if x6 = 0 ∨ x6 = 1 then some (some (.int x6), h5) else none := rfl
theorem e_Md_remove (t : Nat) (v1 : Int32) (h : mm_H) {fs : List Value} (hb : h t = some (.inr (12, fs))) : f_Md_remove [.ref t, .int v1] h =
  (mm_pf 12 0 (.int 0) h t).bind fun h1 =>
  mm_cv (f_Md_aside [.ref t] h1) fun h2 =>
  mm_ci (f_Md_removed [.ref t, .int 0, .int v1] h2) fun x4 h3 =>
  mm_ci (f_Md_isDone [.ref t, .int x4] h3) fun x6 h5 =>
  if x6 = 0 ∨ x6 = 1 then some (some (.int x6), h5) else none := (mm_ga_is rfl).trans ((mm_gd_is hb).trans (e_Md_remove_0 mm_fu t v1 h))
set_option maxRecDepth 100000 in
theorem i_Md_remove (l : Launch) : mm_Imp l yX12_remove cX12_remove 3 (some .boolean) 9 f_Md_remove := mm_imp l (P := p_Md_remove) mm_cls_ok mm_sys_ok (by decide) (mm_Pok_of (List.forall_mem_cons.mpr ⟨k_X12_1, (fun _ h => absurd h List.not_mem_nil)⟩) (List.forall_mem_cons.mpr ⟨v_Md_aside l q_2055 (by decide), (List.forall_mem_cons.mpr ⟨v_Md_removed l q_2102 (by decide), (List.forall_mem_cons.mpr ⟨v_Md_isDone l q_2131 (by decide), (fun _ h => absurd h List.not_mem_nil)⟩)⟩)⟩) (fun _ h => absurd h List.not_mem_nil) (fun _ h => absurd h List.not_mem_nil)) (by decide +kernel) rfl (cats := [1, 1]) (fun as h r e => ⟨(mm_ga_inv e).1, (mm_gd_inv (mm_ga_inv e).2).1⟩) rfl (by decide)
theorem v_Md_remove (l : Launch) {own : String} {i n0 : Nat} (hl : Cond.methodLink own i yX12_remove ∈ mm_tbl) (hn : 10 ≤ n0) : mm_cok l own n0 i (0, 1, 1, f_Md_remove) := Or.inr (Or.inr ⟨rfl, yX12_remove, cX12_remove, 3, (some .boolean), 9, 12, TX12, 27, i_Md_remove l, hn, by decide, by decide +kernel, rfl, fun _ _ _ e => (mm_gd_inv (mm_ga_inv e).2).2, hl, q_2099, q_2100, q_179, q_2101⟩)
def p_Md_change : mm_P := ([(0, .aload_n 0, 1, 0), (1, .iconst 0, 1, 0), (2, .putfield 1, 3, 0), (5, .aload_n 0, 1, 0), (6, .invokevirtual 458, 3, 0), (9, .iload_n 2, 1, 0), (10, .iconst 0, 1, 0), (11, .iconst 2, 1, 2), (12, .invokestatic 275, 3, 0), (15, .ifCond .eq 25, 3, 0), (18, .iload_n 3, 1, 0), (19, .invokestatic 461, 3, 0), (22, .ifCond .eq 18, 3, 0), (25, .aload_n 0, 1, 0), (26, .iconst 0, 1, 0), (27, .iload_n 1, 1, 0), (28, .iload_n 2, 1, 0), (29, .iload_n 3, 1, 0), (30, .invokevirtual 477, 3, 0), (33, .ifCond .eq 7, 3, 0), (36, .iconst 1, 1, 1), (37, .goto 4, 3, 0), (40, .iconst 0, 1, 0), (41, .istore 4, 2, 0), (43, .aload_n 0, 1, 0), (44, .iload 4, 2, 0), (46, .invokevirtual 473, 3, 0), (49, .ireturn, 1, 0)], [(1, 12, 0, 0)], [(275, 1, 3, 1, f_Md_within), (458, 0, 0, 0, f_Md_aside), (461, 1, 1, 1, f_Md_isValue), (473, 0, 1, 1, f_Md_isDone), (477, 0, 4, 1, f_Md_changed)], [], [], [(0, [0, 1, 2, 3])], [], 1)
def f_Md_change : mm_F := fun args h => mm_ga [1, 1, 1, 1] args (mm_gd 12 args h (mm_run p_Md_change (mm_fu + 1) 0 args [] h))
set_option maxRecDepth 100000 in
theorem e_Md_change_0 (f : Nat) (t : Nat) (v1 : Int32) (v2 : Int32) (v3 : Int32) (h : mm_H) : mm_run p_Md_change (f + 1) 0 [.ref t, .int v1, .int v2, .int v3] [] h =
  (mm_pf 12 0 (.int 0) h t).bind fun h1 =>
  mm_cv (f_Md_aside [.ref t] h1) fun h2 =>
  mm_ci (f_Md_within [.int v2, .int 0, .int 2] h2) fun x4 h3 =>
  if x4 = 0 then
    mm_ci (f_Md_isDone [.ref t, .int 0] h3) fun x6 h5 =>
    if x6 = 0 ∨ x6 = 1 then some (some (.int x6), h5) else none
  else
    mm_ci (f_Md_isValue [.int v3] h3) fun x8 h7 =>
    if x8 = 0 then
      mm_ci (f_Md_isDone [.ref t, .int 0] h7) fun x10 h9 =>
      if x10 = 0 ∨ x10 = 1 then some (some (.int x10), h9) else none
    else
      mm_ci (f_Md_changed [.ref t, .int 0, .int v1, .int v2, .int v3] h7) fun x12 h11 =>
      if x12 = 0 then
        mm_ci (f_Md_isDone [.ref t, .int 0] h11) fun x14 h13 =>
        if x14 = 0 ∨ x14 = 1 then some (some (.int x14), h13) else none
      else
        mm_ci (f_Md_isDone [.ref t, .int 1] h11) fun x16 h15 =>
        if x16 = 0 ∨ x16 = 1 then some (some (.int x16), h15) else none := rfl
theorem e_Md_change (t : Nat) (v1 : Int32) (v2 : Int32) (v3 : Int32) (h : mm_H) {fs : List Value} (hb : h t = some (.inr (12, fs))) : f_Md_change [.ref t, .int v1, .int v2, .int v3] h =
  (mm_pf 12 0 (.int 0) h t).bind fun h1 =>
  mm_cv (f_Md_aside [.ref t] h1) fun h2 =>
  mm_ci (f_Md_within [.int v2, .int 0, .int 2] h2) fun x4 h3 =>
  if x4 = 0 then
    mm_ci (f_Md_isDone [.ref t, .int 0] h3) fun x6 h5 =>
    if x6 = 0 ∨ x6 = 1 then some (some (.int x6), h5) else none
  else
    mm_ci (f_Md_isValue [.int v3] h3) fun x8 h7 =>
    if x8 = 0 then
      mm_ci (f_Md_isDone [.ref t, .int 0] h7) fun x10 h9 =>
      if x10 = 0 ∨ x10 = 1 then some (some (.int x10), h9) else none
    else
      mm_ci (f_Md_changed [.ref t, .int 0, .int v1, .int v2, .int v3] h7) fun x12 h11 =>
      if x12 = 0 then
        mm_ci (f_Md_isDone [.ref t, .int 0] h11) fun x14 h13 =>
        if x14 = 0 ∨ x14 = 1 then some (some (.int x14), h13) else none
      else
        mm_ci (f_Md_isDone [.ref t, .int 1] h11) fun x16 h15 =>
        if x16 = 0 ∨ x16 = 1 then some (some (.int x16), h15) else none := (mm_ga_is rfl).trans ((mm_gd_is hb).trans (e_Md_change_0 mm_fu t v1 v2 v3 h))
set_option maxRecDepth 100000 in
theorem i_Md_change (l : Launch) : mm_Imp l yX12_change cX12_change 5 (some .boolean) 8 f_Md_change := mm_imp l (P := p_Md_change) mm_cls_ok mm_sys_ok (by decide) (mm_Pok_of (List.forall_mem_cons.mpr ⟨k_X12_1, (fun _ h => absurd h List.not_mem_nil)⟩) (List.forall_mem_cons.mpr ⟨v_Md_within l (Or.inl q_1769) (by decide), (List.forall_mem_cons.mpr ⟨v_Md_aside l q_2055 (by decide), (List.forall_mem_cons.mpr ⟨v_Md_isValue l (Or.inl q_2063) (by decide), (List.forall_mem_cons.mpr ⟨v_Md_isDone l q_2131 (by decide), (List.forall_mem_cons.mpr ⟨v_Md_changed l q_2139 (by decide), (fun _ h => absurd h List.not_mem_nil)⟩)⟩)⟩)⟩)⟩) (fun _ h => absurd h List.not_mem_nil) (fun _ h => absurd h List.not_mem_nil)) (by decide +kernel) rfl (cats := [1, 1, 1, 1]) (fun as h r e => ⟨(mm_ga_inv e).1, (mm_gd_inv (mm_ga_inv e).2).1⟩) rfl (by decide)
theorem v_Md_change (l : Launch) {own : String} {i n0 : Nat} (hl : Cond.methodLink own i yX12_change ∈ mm_tbl) (hn : 9 ≤ n0) : mm_cok l own n0 i (0, 3, 1, f_Md_change) := Or.inr (Or.inr ⟨rfl, yX12_change, cX12_change, 5, (some .boolean), 8, 12, TX12, 27, i_Md_change l, hn, by decide, by decide +kernel, rfl, fun _ _ _ e => (mm_gd_inv (mm_ga_inv e).2).2, hl, q_2136, q_2137, q_179, q_2138⟩)
def p_Md_point : mm_P := ([(0, .aload_n 0, 1, 0), (1, .iconst 0, 1, 0), (2, .putfield 1, 3, 0), (5, .aload_n 0, 1, 0), (6, .invokevirtual 458, 3, 0), (9, .aload_n 0, 1, 0), (10, .getfield 123, 3, 0), (13, .iconst 4, 1, 4), (14, .iaload, 1, 0), (15, .istore_n 3, 1, 0), (16, .iload_n 1, 1, 0), (17, .iconst 0, 1, 0), (18, .iconst 2, 1, 2), (19, .invokestatic 275, 3, 0), (22, .ifCond .eq 31, 3, 0), (25, .iload_n 2, 1, 0), (26, .invokestatic 461, 3, 0), (29, .ifCond .eq 24, 3, 0), (32, .iload_n 3, 1, 0), (33, .bipush 12, 2, 12), (35, .if_icmp .eq 18, 3, 0), (38, .aload_n 0, 1, 0), (39, .iconst 0, 1, 0), (40, .aload_n 0, 1, 0), (41, .iconst 0, 1, 0), (42, .invokevirtual 279, 3, 0), (45, .iconst 0, 1, 0), (46, .iload_n 2, 1, 0), (47, .invokevirtual 289, 3, 0), (50, .ifCond .ne 5, 3, 0), (53, .iconst (-1), 1, (-1)), (54, .ireturn, 1, 0), (55, .aload_n 0, 1, 0), (56, .getfield 123, 3, 0), (59, .bipush 43, 2, 43), (61, .iload_n 3, 1, 0), (62, .iadd, 1, 0), (63, .iload_n 1, 1, 0), (64, .iastore, 1, 0), (65, .aload_n 0, 1, 0), (66, .getfield 123, 3, 0), (69, .bipush 55, 2, 55), (71, .iload_n 3, 1, 0), (72, .iadd, 1, 0), (73, .iload_n 2, 1, 0), (74, .iastore, 1, 0), (75, .aload_n 0, 1, 0), (76, .getfield 123, 3, 0), (79, .bipush 67, 2, 67), (81, .iload_n 3, 1, 0), (82, .iadd, 1, 0), (83, .bipush (-3), 2, (-3)), (85, .iastore, 1, 0), (86, .aload_n 0, 1, 0), (87, .getfield 123, 3, 0), (90, .iconst 4, 1, 4), (91, .dup2, 1, 0), (92, .iaload, 1, 0), (93, .iconst 1, 1, 1), (94, .iadd, 1, 0), (95, .iastore, 1, 0), (96, .aload_n 0, 1, 0), (97, .iload_n 3, 1, 0), (98, .invokevirtual 467, 3, 0), (101, .ireturn, 1, 0)], [(1, 12, 0, 0), (123, 12, 14, 4)], [(275, 1, 3, 1, f_Md_within), (279, 0, 1, 1, f_Md_visible), (289, 0, 4, 1, f_Md_having), (458, 0, 0, 0, f_Md_aside), (461, 1, 1, 1, f_Md_isValue), (467, 0, 1, 1, f_Md_done)], [], [], [(0, [0, 1, 2])], [], 2)
def f_Md_point : mm_F := fun args h => mm_ga [1, 1, 1] args (mm_gd 12 args h (mm_run p_Md_point (mm_fu + 1) 0 args [] h))
set_option maxRecDepth 100000 in
theorem e_Md_point_0 (f : Nat) (t : Nat) (v1 : Int32) (v2 : Int32) (h : mm_H) : mm_run p_Md_point (f + 1) 0 [.ref t, .int v1, .int v2] [] h =
  (mm_pf 12 0 (.int 0) h t).bind fun h1 =>
  mm_cv (f_Md_aside [.ref t] h1) fun h2 =>
  (mm_gr 12 14 h2 t).bind fun r3 =>
  (mm_li h2 r3 4).bind fun x4 =>
  mm_ci (f_Md_within [.int v1, .int 0, .int 2] h2) fun x6 h5 =>
  if x6 = 0 then
    some (some (.int (-1)), h5)
  else
    mm_ci (f_Md_isValue [.int v2] h5) fun x8 h7 =>
    if x8 = 0 then
      some (some (.int (-1)), h7)
    else
      if x4 = 12 then
        some (some (.int (-1)), h7)
      else
        mm_ci (f_Md_visible [.ref t, .int 0] h7) fun x10 h9 =>
        mm_ci (f_Md_having [.ref t, .int 0, .int x10, .int 0, .int v2] h9) fun x12 h11 =>
        if x12 = 0 then
          some (some (.int (-1)), h11)
        else
          (mm_gr 12 14 h11 t).bind fun r13 =>
          (mm_si h11 r13 (43 + x4) v1).bind fun h14 =>
          (mm_gr 12 14 h14 t).bind fun r15 =>
          (mm_si h14 r15 (55 + x4) v2).bind fun h16 =>
          (mm_gr 12 14 h16 t).bind fun r17 =>
          (mm_si h16 r17 (67 + x4) (-3)).bind fun h18 =>
          (mm_gr 12 14 h18 t).bind fun r19 =>
          (mm_li h18 r19 4).bind fun x20 =>
          (mm_si h18 r19 4 (x20 + 1)).bind fun h21 =>
          mm_ci (f_Md_done [.ref t, .int x4] h21) fun x23 h22 =>
          some (some (.int x23), h22) := rfl
theorem e_Md_point (t : Nat) (v1 : Int32) (v2 : Int32) (h : mm_H) {fs : List Value} (hb : h t = some (.inr (12, fs))) : f_Md_point [.ref t, .int v1, .int v2] h =
  (mm_pf 12 0 (.int 0) h t).bind fun h1 =>
  mm_cv (f_Md_aside [.ref t] h1) fun h2 =>
  (mm_gr 12 14 h2 t).bind fun r3 =>
  (mm_li h2 r3 4).bind fun x4 =>
  mm_ci (f_Md_within [.int v1, .int 0, .int 2] h2) fun x6 h5 =>
  if x6 = 0 then
    some (some (.int (-1)), h5)
  else
    mm_ci (f_Md_isValue [.int v2] h5) fun x8 h7 =>
    if x8 = 0 then
      some (some (.int (-1)), h7)
    else
      if x4 = 12 then
        some (some (.int (-1)), h7)
      else
        mm_ci (f_Md_visible [.ref t, .int 0] h7) fun x10 h9 =>
        mm_ci (f_Md_having [.ref t, .int 0, .int x10, .int 0, .int v2] h9) fun x12 h11 =>
        if x12 = 0 then
          some (some (.int (-1)), h11)
        else
          (mm_gr 12 14 h11 t).bind fun r13 =>
          (mm_si h11 r13 (43 + x4) v1).bind fun h14 =>
          (mm_gr 12 14 h14 t).bind fun r15 =>
          (mm_si h14 r15 (55 + x4) v2).bind fun h16 =>
          (mm_gr 12 14 h16 t).bind fun r17 =>
          (mm_si h16 r17 (67 + x4) (-3)).bind fun h18 =>
          (mm_gr 12 14 h18 t).bind fun r19 =>
          (mm_li h18 r19 4).bind fun x20 =>
          (mm_si h18 r19 4 (x20 + 1)).bind fun h21 =>
          mm_ci (f_Md_done [.ref t, .int x4] h21) fun x23 h22 =>
          some (some (.int x23), h22) := (mm_ga_is rfl).trans ((mm_gd_is hb).trans (e_Md_point_0 mm_fu t v1 v2 h))
set_option maxRecDepth 100000 in
theorem i_Md_point (l : Launch) : mm_Imp l yX12_point cX12_point 4 (some .int) 4 f_Md_point := mm_imp l (P := p_Md_point) mm_cls_ok mm_sys_ok (by decide) (mm_Pok_of (List.forall_mem_cons.mpr ⟨k_X12_1, (List.forall_mem_cons.mpr ⟨k_X12_123, (fun _ h => absurd h List.not_mem_nil)⟩)⟩) (List.forall_mem_cons.mpr ⟨v_Md_within l (Or.inl q_1769) (by decide), (List.forall_mem_cons.mpr ⟨v_Md_visible l q_1772 (by decide), (List.forall_mem_cons.mpr ⟨v_Md_having l q_1776 (by decide), (List.forall_mem_cons.mpr ⟨v_Md_aside l q_2055 (by decide), (List.forall_mem_cons.mpr ⟨v_Md_isValue l (Or.inl q_2063) (by decide), (List.forall_mem_cons.mpr ⟨v_Md_done l q_2090 (by decide), (fun _ h => absurd h List.not_mem_nil)⟩)⟩)⟩)⟩)⟩)⟩) (fun _ h => absurd h List.not_mem_nil) (fun _ h => absurd h List.not_mem_nil)) (by decide +kernel) rfl (cats := [1, 1, 1]) (fun as h r e => ⟨(mm_ga_inv e).1, (mm_gd_inv (mm_ga_inv e).2).1⟩) rfl (by decide)
theorem v_Md_point (l : Launch) {own : String} {i n0 : Nat} (hl : Cond.methodLink own i yX12_point ∈ mm_tbl) (hn : 5 ≤ n0) : mm_cok l own n0 i (0, 2, 1, f_Md_point) := Or.inr (Or.inr ⟨rfl, yX12_point, cX12_point, 4, (some .int), 4, 12, TX12, 27, i_Md_point l, hn, by decide, by decide +kernel, rfl, fun _ _ _ e => (mm_gd_inv (mm_ga_inv e).2).2, hl, q_2147, q_2148, q_179, q_2149⟩)
def p_Md_isPointer : mm_P := ([(0, .iload_n 1, 1, 0), (1, .ifCond .lt 17, 3, 0), (4, .iload_n 1, 1, 0), (5, .aload_n 0, 1, 0), (6, .getfield 123, 3, 0), (9, .iconst 4, 1, 4), (10, .iaload, 1, 0), (11, .if_icmp .ge 7, 3, 0), (14, .iconst 1, 1, 1), (15, .goto 4, 3, 0), (18, .iconst 0, 1, 0), (19, .ireturn, 1, 0)], [(123, 12, 14, 4)], [], [], [], [(0, [0, 1])], [], 1)
def f_Md_isPointer : mm_F := fun args h => mm_ga [1, 1] args (mm_gd 12 args h (mm_run p_Md_isPointer (mm_fu + 1) 0 args [] h))
set_option maxRecDepth 100000 in
theorem e_Md_isPointer_0 (f : Nat) (t : Nat) (v1 : Int32) (h : mm_H) : mm_run p_Md_isPointer (f + 1) 0 [.ref t, .int v1] [] h =
  if v1 < 0 then
    some (some (.int 0), h)
  else
    (mm_gr 12 14 h t).bind fun r1 =>
    (mm_li h r1 4).bind fun x2 =>
    if v1 < x2 then
      some (some (.int 1), h)
    else
      some (some (.int 0), h) := rfl
theorem e_Md_isPointer (t : Nat) (v1 : Int32) (h : mm_H) {fs : List Value} (hb : h t = some (.inr (12, fs))) : f_Md_isPointer [.ref t, .int v1] h =
  if v1 < 0 then
    some (some (.int 0), h)
  else
    (mm_gr 12 14 h t).bind fun r1 =>
    (mm_li h r1 4).bind fun x2 =>
    if v1 < x2 then
      some (some (.int 1), h)
    else
      some (some (.int 0), h) := (mm_ga_is rfl).trans ((mm_gd_is hb).trans (e_Md_isPointer_0 mm_fu t v1 h))
set_option maxRecDepth 100000 in
theorem i_Md_isPointer (l : Launch) : mm_Imp l yX12_isPointer cX12_isPointer 2 (some .boolean) 1 f_Md_isPointer := mm_imp l (P := p_Md_isPointer) mm_cls_ok mm_sys_ok (by decide) (mm_Pok_of (List.forall_mem_cons.mpr ⟨k_X12_123, (fun _ h => absurd h List.not_mem_nil)⟩) (fun _ h => absurd h List.not_mem_nil) (fun _ h => absurd h List.not_mem_nil) (fun _ h => absurd h List.not_mem_nil)) (by decide +kernel) rfl (cats := [1, 1]) (fun as h r e => ⟨(mm_ga_inv e).1, (mm_gd_inv (mm_ga_inv e).2).1⟩) rfl (by decide)
theorem v_Md_isPointer (l : Launch) {own : String} {i n0 : Nat} (hl : Cond.methodLink own i yX12_isPointer ∈ mm_tbl) (hn : 2 ≤ n0) : mm_cok l own n0 i (0, 1, 1, f_Md_isPointer) := Or.inr (Or.inr ⟨rfl, yX12_isPointer, cX12_isPointer, 2, (some .boolean), 1, 12, TX12, 27, i_Md_isPointer l, hn, by decide, by decide +kernel, rfl, fun _ _ _ e => (mm_gd_inv (mm_ga_inv e).2).2, hl, q_2156, q_120, q_179, q_2157⟩)
def p_Md_drop : mm_P := ([(0, .aload_n 0, 1, 0), (1, .iconst 0, 1, 0), (2, .putfield 1, 3, 0), (5, .aload_n 0, 1, 0), (6, .invokevirtual 458, 3, 0), (9, .aload_n 0, 1, 0), (10, .iload_n 1, 1, 0), (11, .invokevirtual 481, 3, 0), (14, .ifCond .eq 17, 3, 0), (17, .aload_n 0, 1, 0), (18, .getfield 123, 3, 0), (21, .bipush 55, 2, 55), (23, .iload_n 1, 1, 0), (24, .iadd, 1, 0), (25, .iaload, 1, 0), (26, .bipush (-2), 2, (-2)), (28, .if_icmp .ne 5, 3, 0), (31, .iconst 0, 1, 0), (32, .ireturn, 1, 0), (33, .aload_n 0, 1, 0), (34, .getfield 123, 3, 0), (37, .bipush 55, 2, 55), (39, .iload_n 1, 1, 0), (40, .iadd, 1, 0), (41, .bipush (-2), 2, (-2)), (43, .iastore, 1, 0), (44, .aload_n 0, 1, 0), (45, .iconst 1, 1, 1), (46, .invokevirtual 473, 3, 0), (49, .ireturn, 1, 0)], [(1, 12, 0, 0), (123, 12, 14, 4)], [(458, 0, 0, 0, f_Md_aside), (473, 0, 1, 1, f_Md_isDone), (481, 0, 1, 1, f_Md_isPointer)], [], [], [(0, [0, 1])], [], 1)
def f_Md_drop : mm_F := fun args h => mm_ga [1, 1] args (mm_gd 12 args h (mm_run p_Md_drop (mm_fu + 1) 0 args [] h))
set_option maxRecDepth 100000 in
theorem e_Md_drop_0 (f : Nat) (t : Nat) (v1 : Int32) (h : mm_H) : mm_run p_Md_drop (f + 1) 0 [.ref t, .int v1] [] h =
  (mm_pf 12 0 (.int 0) h t).bind fun h1 =>
  mm_cv (f_Md_aside [.ref t] h1) fun h2 =>
  mm_ci (f_Md_isPointer [.ref t, .int v1] h2) fun x4 h3 =>
  if x4 = 0 then
    some (some (.int 0), h3)
  else
    (mm_gr 12 14 h3 t).bind fun r5 =>
    (mm_li h3 r5 (55 + v1)).bind fun x6 =>
    if x6 = (-2) then
      some (some (.int 0), h3)
    else
      (mm_gr 12 14 h3 t).bind fun r7 =>
      (mm_si h3 r7 (55 + v1) (-2)).bind fun h8 =>
      mm_ci (f_Md_isDone [.ref t, .int 1] h8) fun x10 h9 =>
      if x10 = 0 ∨ x10 = 1 then some (some (.int x10), h9) else none := rfl
theorem e_Md_drop (t : Nat) (v1 : Int32) (h : mm_H) {fs : List Value} (hb : h t = some (.inr (12, fs))) : f_Md_drop [.ref t, .int v1] h =
  (mm_pf 12 0 (.int 0) h t).bind fun h1 =>
  mm_cv (f_Md_aside [.ref t] h1) fun h2 =>
  mm_ci (f_Md_isPointer [.ref t, .int v1] h2) fun x4 h3 =>
  if x4 = 0 then
    some (some (.int 0), h3)
  else
    (mm_gr 12 14 h3 t).bind fun r5 =>
    (mm_li h3 r5 (55 + v1)).bind fun x6 =>
    if x6 = (-2) then
      some (some (.int 0), h3)
    else
      (mm_gr 12 14 h3 t).bind fun r7 =>
      (mm_si h3 r7 (55 + v1) (-2)).bind fun h8 =>
      mm_ci (f_Md_isDone [.ref t, .int 1] h8) fun x10 h9 =>
      if x10 = 0 ∨ x10 = 1 then some (some (.int x10), h9) else none := (mm_ga_is rfl).trans ((mm_gd_is hb).trans (e_Md_drop_0 mm_fu t v1 h))
set_option maxRecDepth 100000 in
theorem i_Md_drop (l : Launch) : mm_Imp l yX12_drop cX12_drop 2 (some .boolean) 4 f_Md_drop := mm_imp l (P := p_Md_drop) mm_cls_ok mm_sys_ok (by decide) (mm_Pok_of (List.forall_mem_cons.mpr ⟨k_X12_1, (List.forall_mem_cons.mpr ⟨k_X12_123, (fun _ h => absurd h List.not_mem_nil)⟩)⟩) (List.forall_mem_cons.mpr ⟨v_Md_aside l q_2055 (by decide), (List.forall_mem_cons.mpr ⟨v_Md_isDone l q_2131 (by decide), (List.forall_mem_cons.mpr ⟨v_Md_isPointer l q_2154 (by decide), (fun _ h => absurd h List.not_mem_nil)⟩)⟩)⟩) (fun _ h => absurd h List.not_mem_nil) (fun _ h => absurd h List.not_mem_nil)) (by decide +kernel) rfl (cats := [1, 1]) (fun as h r e => ⟨(mm_ga_inv e).1, (mm_gd_inv (mm_ga_inv e).2).1⟩) rfl (by decide)
theorem v_Md_drop (l : Launch) {own : String} {i n0 : Nat} (hl : Cond.methodLink own i yX12_drop ∈ mm_tbl) (hn : 5 ≤ n0) : mm_cok l own n0 i (0, 1, 1, f_Md_drop) := Or.inr (Or.inr ⟨rfl, yX12_drop, cX12_drop, 2, (some .boolean), 4, 12, TX12, 27, i_Md_drop l, hn, by decide, by decide +kernel, rfl, fun _ _ _ e => (mm_gd_inv (mm_ga_inv e).2).2, hl, q_2151, q_2152, q_179, q_2153⟩)
def p_Md_begin : mm_P := ([(0, .aload_n 0, 1, 0), (1, .iconst 0, 1, 0), (2, .putfield 1, 3, 0), (5, .aload_n 0, 1, 0), (6, .invokevirtual 458, 3, 0), (9, .iload_n 1, 1, 0), (10, .iconst (-1), 1, (-1)), (11, .if_icmp .ne 11, 3, 0), (14, .aload_n 0, 1, 0), (15, .iconst 0, 1, 0), (16, .invokevirtual 341, 3, 0), (19, .goto 4, 3, 0), (22, .iconst 0, 1, 0), (23, .istore 4, 2, 0), (25, .iconst 0, 1, 0), (26, .istore 5, 2, 0), (28, .aload_n 0, 1, 0), (29, .iload_n 1, 1, 0), (30, .invokevirtual 484, 3, 0), (33, .ifCond .eq 89, 3, 0), (36, .iload 5, 2, 0), (38, .aload_n 0, 1, 0), (39, .iconst 0, 1, 0), (40, .iload_n 1, 1, 0), (41, .invokevirtual 311, 3, 0), (44, .if_icmp .ge 78, 3, 0), (47, .aload_n 0, 1, 0), (48, .iconst 0, 1, 0), (49, .iload_n 1, 1, 0), (50, .iload 5, 2, 0), (52, .invokevirtual 344, 3, 0), (55, .istore 6, 2, 0), (57, .aload_n 0, 1, 0), (58, .iload_n 1, 1, 0), (59, .aload_n 0, 1, 0), (60, .iconst 0, 1, 0), (61, .iload_n 1, 1, 0), (62, .iload 5, 2, 0), (64, .invokevirtual 308, 3, 0), (67, .invokevirtual 487, 3, 0), (70, .iload_n 2, 1, 0), (71, .iload_n 3, 1, 0), (72, .invokestatic 275, 3, 0), (75, .ifCond .eq 20, 3, 0), (78, .aload_n 0, 1, 0), (79, .iconst 0, 1, 0), (80, .invokevirtual 341, 3, 0), (83, .iload 6, 2, 0), (85, .invokestatic 282, 3, 0), (88, .ifCond .eq 7, 3, 0), (91, .iconst 1, 1, 1), (92, .goto 4, 3, 0), (95, .iconst 0, 1, 0), (96, .istore 7, 2, 0), (98, .iload 4, 2, 0), (100, .iload 7, 2, 0), (102, .ifCond .eq 10, 3, 0), (105, .iconst 1, 1, 1), (106, .iload 6, 2, 0), (108, .ishl, 1, 0), (109, .goto 4, 3, 0), (112, .iconst 0, 1, 0), (113, .ior, 1, 0), (114, .istore 4, 2, 0), (116, .iinc 5 1, 3, 1), (119, .goto (-91), 3, 0), (122, .aload_n 0, 1, 0), (123, .iconst 0, 1, 0), (124, .iload 4, 2, 0), (126, .invokevirtual 490, 3, 0), (129, .istore 5, 2, 0), (131, .aload_n 0, 1, 0), (132, .iload 5, 2, 0), (134, .invokevirtual 467, 3, 0), (137, .ireturn, 1, 0)], [(1, 12, 0, 0)], [(275, 1, 3, 1, f_Md_within), (282, 1, 2, 1, f_Md_has), (308, 0, 3, 1, f_Md_entryAt), (311, 0, 2, 1, f_Md_entries), (341, 0, 1, 1, f_Md_wouldChoose), (344, 0, 3, 1, f_Md_rowAt), (458, 0, 0, 0, f_Md_aside), (467, 0, 1, 1, f_Md_done), (484, 0, 1, 1, f_Md_isIndex), (487, 0, 2, 1, f_Md_valueIn), (490, 0, 2, 1, f_Md_begun)], [], [], [(0, [0, 1, 2, 3]), (28, [0, 1, 2, 3, 4, 5])], [], 2)
def f_Md_begin : mm_F := fun args h => mm_ga [1, 1, 1, 1] args (mm_gd 12 args h (mm_run p_Md_begin (mm_fu + 1) 0 args [] h))
set_option maxRecDepth 100000 in
theorem e_Md_begin_0 (f : Nat) (t : Nat) (v1 : Int32) (v2 : Int32) (v3 : Int32) (h : mm_H) : mm_run p_Md_begin (f + 1) 0 [.ref t, .int v1, .int v2, .int v3] [] h =
  (mm_pf 12 0 (.int 0) h t).bind fun h1 =>
  mm_cv (f_Md_aside [.ref t] h1) fun h2 =>
  if v1 = (-1) then
    mm_ci (f_Md_wouldChoose [.ref t, .int 0] h2) fun x4 h3 =>
    mm_run p_Md_begin f 28 [.ref t, .int v1, .int v2, .int v3, .int x4, .int 0] [] h3
  else
    mm_run p_Md_begin f 28 [.ref t, .int v1, .int v2, .int v3, .int 0, .int 0] [] h2 := rfl
theorem e_Md_begin (t : Nat) (v1 : Int32) (v2 : Int32) (v3 : Int32) (h : mm_H) {fs : List Value} (hb : h t = some (.inr (12, fs))) : f_Md_begin [.ref t, .int v1, .int v2, .int v3] h =
  (mm_pf 12 0 (.int 0) h t).bind fun h1 =>
  mm_cv (f_Md_aside [.ref t] h1) fun h2 =>
  if v1 = (-1) then
    mm_ci (f_Md_wouldChoose [.ref t, .int 0] h2) fun x4 h3 =>
    mm_run p_Md_begin mm_fu 28 [.ref t, .int v1, .int v2, .int v3, .int x4, .int 0] [] h3
  else
    mm_run p_Md_begin mm_fu 28 [.ref t, .int v1, .int v2, .int v3, .int 0, .int 0] [] h2 := (mm_ga_is rfl).trans ((mm_gd_is hb).trans (e_Md_begin_0 mm_fu t v1 v2 v3 h))
set_option maxRecDepth 100000 in
theorem e_Md_begin_28 (f : Nat) (t : Nat) (v1 : Int32) (v2 : Int32) (v3 : Int32) (v4 : Int32) (v5 : Int32) (h : mm_H) : mm_run p_Md_begin (f + 1) 28 [.ref t, .int v1, .int v2, .int v3, .int v4, .int v5] [] h =
  mm_ci (f_Md_isIndex [.ref t, .int v1] h) fun x2 h1 =>
  if x2 = 0 then
    mm_ci (f_Md_begun [.ref t, .int 0, .int v4] h1) fun x4 h3 =>
    mm_ci (f_Md_done [.ref t, .int x4] h3) fun x6 h5 =>
    some (some (.int x6), h5)
  else
    mm_ci (f_Md_entries [.ref t, .int 0, .int v1] h1) fun x8 h7 =>
    if v5 < x8 then
      mm_ci (f_Md_rowAt [.ref t, .int 0, .int v1, .int v5] h7) fun x10 h9 =>
      mm_ci (f_Md_entryAt [.ref t, .int 0, .int v1, .int v5] h9) fun x12 h11 =>
      mm_ci (f_Md_valueIn [.ref t, .int v1, .int x12] h11) fun x14 h13 =>
      mm_ci (f_Md_within [.int x14, .int v2, .int v3] h13) fun x16 h15 =>
      if x16 = 0 then
        mm_run p_Md_begin f 28 [.ref t, .int v1, .int v2, .int v3, .int (v4 ||| 0), .int (v5 + 1)] [] h15
      else
        mm_ci (f_Md_wouldChoose [.ref t, .int 0] h15) fun x18 h17 =>
        mm_ci (f_Md_has [.int x18, .int x10] h17) fun x20 h19 =>
        if x20 = 0 then
          mm_run p_Md_begin f 28 [.ref t, .int v1, .int v2, .int v3, .int (v4 ||| 0), .int (v5 + 1)] [] h19
        else
          mm_run p_Md_begin f 28 [.ref t, .int v1, .int v2, .int v3, .int (v4 ||| (1 <<< (x10 &&& 31))), .int (v5 + 1)] [] h19
    else
      mm_ci (f_Md_begun [.ref t, .int 0, .int v4] h7) fun x22 h21 =>
      mm_ci (f_Md_done [.ref t, .int x22] h21) fun x24 h23 =>
      some (some (.int x24), h23) := rfl
set_option maxRecDepth 100000 in
theorem i_Md_begin (l : Launch) : mm_Imp l yX12_begin cX12_begin 8 (some .int) 9 f_Md_begin := mm_imp l (P := p_Md_begin) mm_cls_ok mm_sys_ok (by decide) (mm_Pok_of (List.forall_mem_cons.mpr ⟨k_X12_1, (fun _ h => absurd h List.not_mem_nil)⟩) (List.forall_mem_cons.mpr ⟨v_Md_within l (Or.inl q_1769) (by decide), (List.forall_mem_cons.mpr ⟨v_Md_has l (Or.inl q_1780) (by decide), (List.forall_mem_cons.mpr ⟨v_Md_entryAt l q_1827 (by decide), (List.forall_mem_cons.mpr ⟨v_Md_entries l q_1807 (by decide), (List.forall_mem_cons.mpr ⟨v_Md_wouldChoose l q_2162 (by decide), (List.forall_mem_cons.mpr ⟨v_Md_rowAt l q_2170 (by decide), (List.forall_mem_cons.mpr ⟨v_Md_aside l q_2055 (by decide), (List.forall_mem_cons.mpr ⟨v_Md_done l q_2090 (by decide), (List.forall_mem_cons.mpr ⟨v_Md_isIndex l q_2166 (by decide), (List.forall_mem_cons.mpr ⟨v_Md_valueIn l q_2174 (by decide), (List.forall_mem_cons.mpr ⟨v_Md_begun l q_2178 (by decide), (fun _ h => absurd h List.not_mem_nil)⟩)⟩)⟩)⟩)⟩)⟩)⟩)⟩)⟩)⟩)⟩) (fun _ h => absurd h List.not_mem_nil) (fun _ h => absurd h List.not_mem_nil)) (by decide +kernel) rfl (cats := [1, 1, 1, 1]) (fun as h r e => ⟨(mm_ga_inv e).1, (mm_gd_inv (mm_ga_inv e).2).1⟩) rfl (by decide)
theorem v_Md_begin (l : Launch) {own : String} {i n0 : Nat} (hl : Cond.methodLink own i yX12_begin ∈ mm_tbl) (hn : 10 ≤ n0) : mm_cok l own n0 i (0, 3, 1, f_Md_begin) := Or.inr (Or.inr ⟨rfl, yX12_begin, cX12_begin, 8, (some .int), 9, 12, TX12, 27, i_Md_begin l, hn, by decide, by decide +kernel, rfl, fun _ _ _ e => (mm_gd_inv (mm_ga_inv e).2).2, hl, q_2159, q_2160, q_179, q_2161⟩)
def p_Md_step : mm_P := ([(0, .aload_n 0, 1, 0), (1, .iconst 0, 1, 0), (2, .putfield 1, 3, 0), (5, .aload_n 0, 1, 0), (6, .invokevirtual 458, 3, 0), (9, .aload_n 0, 1, 0), (10, .iconst 0, 1, 0), (11, .invokevirtual 493, 3, 0), (14, .istore_n 1, 1, 0), (15, .aload_n 0, 1, 0), (16, .iload_n 1, 1, 0), (17, .invokevirtual 467, 3, 0), (20, .ireturn, 1, 0)], [(1, 12, 0, 0)], [(458, 0, 0, 0, f_Md_aside), (467, 0, 1, 1, f_Md_done), (493, 0, 1, 1, f_Md_stepped)], [], [], [(0, [0])], [], 2)
def f_Md_step : mm_F := fun args h => mm_ga [1] args (mm_gd 12 args h (mm_run p_Md_step (mm_fu + 1) 0 args [] h))
set_option maxRecDepth 100000 in
theorem e_Md_step_0 (f : Nat) (t : Nat) (h : mm_H) : mm_run p_Md_step (f + 1) 0 [.ref t] [] h =
  (mm_pf 12 0 (.int 0) h t).bind fun h1 =>
  mm_cv (f_Md_aside [.ref t] h1) fun h2 =>
  mm_ci (f_Md_stepped [.ref t, .int 0] h2) fun x4 h3 =>
  mm_ci (f_Md_done [.ref t, .int x4] h3) fun x6 h5 =>
  some (some (.int x6), h5) := rfl
theorem e_Md_step (t : Nat) (h : mm_H) {fs : List Value} (hb : h t = some (.inr (12, fs))) : f_Md_step [.ref t] h =
  (mm_pf 12 0 (.int 0) h t).bind fun h1 =>
  mm_cv (f_Md_aside [.ref t] h1) fun h2 =>
  mm_ci (f_Md_stepped [.ref t, .int 0] h2) fun x4 h3 =>
  mm_ci (f_Md_done [.ref t, .int x4] h3) fun x6 h5 =>
  some (some (.int x6), h5) := (mm_ga_is rfl).trans ((mm_gd_is hb).trans (e_Md_step_0 mm_fu t h))
set_option maxRecDepth 100000 in
theorem i_Md_step (l : Launch) : mm_Imp l yX12_step cX12_step 2 (some .int) 10 f_Md_step := mm_imp l (P := p_Md_step) mm_cls_ok mm_sys_ok (by decide) (mm_Pok_of (List.forall_mem_cons.mpr ⟨k_X12_1, (fun _ h => absurd h List.not_mem_nil)⟩) (List.forall_mem_cons.mpr ⟨v_Md_aside l q_2055 (by decide), (List.forall_mem_cons.mpr ⟨v_Md_done l q_2090 (by decide), (List.forall_mem_cons.mpr ⟨v_Md_stepped l q_2221 (by decide), (fun _ h => absurd h List.not_mem_nil)⟩)⟩)⟩) (fun _ h => absurd h List.not_mem_nil) (fun _ h => absurd h List.not_mem_nil)) (by decide +kernel) rfl (cats := [1]) (fun as h r e => ⟨(mm_ga_inv e).1, (mm_gd_inv (mm_ga_inv e).2).1⟩) rfl (by decide)
theorem v_Md_step (l : Launch) {own : String} {i n0 : Nat} (hl : Cond.methodLink own i yX12_step ∈ mm_tbl) (hn : 11 ≤ n0) : mm_cok l own n0 i (0, 0, 1, f_Md_step) := Or.inr (Or.inr ⟨rfl, yX12_step, cX12_step, 2, (some .int), 10, 12, TX12, 27, i_Md_step l, hn, by decide, by decide +kernel, rfl, fun _ _ _ e => (mm_gd_inv (mm_ga_inv e).2).2, hl, q_2218, q_2219, q_179, q_2220⟩)
def p_Md_stop : mm_P := ([(0, .aload_n 0, 1, 0), (1, .iconst 0, 1, 0), (2, .putfield 1, 3, 0), (5, .aload_n 0, 1, 0), (6, .invokevirtual 458, 3, 0), (9, .aload_n 0, 1, 0), (10, .iconst 0, 1, 0), (11, .invokevirtual 496, 3, 0), (14, .istore_n 1, 1, 0), (15, .aload_n 0, 1, 0), (16, .iload_n 1, 1, 0), (17, .invokevirtual 473, 3, 0), (20, .ireturn, 1, 0)], [(1, 12, 0, 0)], [(458, 0, 0, 0, f_Md_aside), (473, 0, 1, 1, f_Md_isDone), (496, 0, 1, 1, f_Md_stopped)], [], [], [(0, [0])], [], 1)
def f_Md_stop : mm_F := fun args h => mm_ga [1] args (mm_gd 12 args h (mm_run p_Md_stop (mm_fu + 1) 0 args [] h))
set_option maxRecDepth 100000 in
theorem e_Md_stop_0 (f : Nat) (t : Nat) (h : mm_H) : mm_run p_Md_stop (f + 1) 0 [.ref t] [] h =
  (mm_pf 12 0 (.int 0) h t).bind fun h1 =>
  mm_cv (f_Md_aside [.ref t] h1) fun h2 =>
  mm_ci (f_Md_stopped [.ref t, .int 0] h2) fun x4 h3 =>
  mm_ci (f_Md_isDone [.ref t, .int x4] h3) fun x6 h5 =>
  if x6 = 0 ∨ x6 = 1 then some (some (.int x6), h5) else none := rfl
theorem e_Md_stop (t : Nat) (h : mm_H) {fs : List Value} (hb : h t = some (.inr (12, fs))) : f_Md_stop [.ref t] h =
  (mm_pf 12 0 (.int 0) h t).bind fun h1 =>
  mm_cv (f_Md_aside [.ref t] h1) fun h2 =>
  mm_ci (f_Md_stopped [.ref t, .int 0] h2) fun x4 h3 =>
  mm_ci (f_Md_isDone [.ref t, .int x4] h3) fun x6 h5 =>
  if x6 = 0 ∨ x6 = 1 then some (some (.int x6), h5) else none := (mm_ga_is rfl).trans ((mm_gd_is hb).trans (e_Md_stop_0 mm_fu t h))
set_option maxRecDepth 100000 in
theorem i_Md_stop (l : Launch) : mm_Imp l yX12_stop cX12_stop 2 (some .boolean) 8 f_Md_stop := mm_imp l (P := p_Md_stop) mm_cls_ok mm_sys_ok (by decide) (mm_Pok_of (List.forall_mem_cons.mpr ⟨k_X12_1, (fun _ h => absurd h List.not_mem_nil)⟩) (List.forall_mem_cons.mpr ⟨v_Md_aside l q_2055 (by decide), (List.forall_mem_cons.mpr ⟨v_Md_isDone l q_2131 (by decide), (List.forall_mem_cons.mpr ⟨v_Md_stopped l q_2253 (by decide), (fun _ h => absurd h List.not_mem_nil)⟩)⟩)⟩) (fun _ h => absurd h List.not_mem_nil) (fun _ h => absurd h List.not_mem_nil)) (by decide +kernel) rfl (cats := [1]) (fun as h r e => ⟨(mm_ga_inv e).1, (mm_gd_inv (mm_ga_inv e).2).1⟩) rfl (by decide)
theorem v_Md_stop (l : Launch) {own : String} {i n0 : Nat} (hl : Cond.methodLink own i yX12_stop ∈ mm_tbl) (hn : 9 ≤ n0) : mm_cok l own n0 i (0, 0, 1, f_Md_stop) := Or.inr (Or.inr ⟨rfl, yX12_stop, cX12_stop, 2, (some .boolean), 8, 12, TX12, 27, i_Md_stop l, hn, by decide, by decide +kernel, rfl, fun _ _ _ e => (mm_gd_inv (mm_ga_inv e).2).2, hl, q_2250, q_2251, q_179, q_2252⟩)
def p_Md_crash : mm_P := ([(0, .aload_n 0, 1, 0), (1, .iconst 0, 1, 0), (2, .putfield 1, 3, 0), (5, .aload_n 0, 1, 0), (6, .iconst 0, 1, 0), (7, .invokevirtual 499, 3, 0), (10, .istore_n 1, 1, 0), (11, .aload_n 0, 1, 0), (12, .iload_n 1, 1, 0), (13, .ifCond .lt 7, 3, 0), (16, .iconst 0, 1, 0), (17, .goto 7, 3, 0), (20, .aload_n 0, 1, 0), (21, .getfield 449, 3, 0), (24, .putfield 449, 3, 0), (27, .iload_n 1, 1, 0), (28, .ireturn, 1, 0)], [(1, 12, 0, 0), (449, 12, 15, 0)], [(499, 0, 1, 1, f_Md_crashed)], [], [], [(0, [0])], [], 2)
def f_Md_crash : mm_F := fun args h => mm_ga [1] args (mm_gd 12 args h (mm_run p_Md_crash (mm_fu + 1) 0 args [] h))
set_option maxRecDepth 100000 in
theorem e_Md_crash_0 (f : Nat) (t : Nat) (h : mm_H) : mm_run p_Md_crash (f + 1) 0 [.ref t] [] h =
  (mm_pf 12 0 (.int 0) h t).bind fun h1 =>
  mm_ci (f_Md_crashed [.ref t, .int 0] h1) fun x3 h2 =>
  if x3 < 0 then
    (mm_gi 12 15 h2 t).bind fun x4 =>
    (mm_pf 12 15 (.int x4) h2 t).bind fun h5 =>
    some (some (.int x3), h5)
  else
    (mm_pf 12 15 (.int 0) h2 t).bind fun h6 =>
    some (some (.int x3), h6) := rfl
theorem e_Md_crash (t : Nat) (h : mm_H) {fs : List Value} (hb : h t = some (.inr (12, fs))) : f_Md_crash [.ref t] h =
  (mm_pf 12 0 (.int 0) h t).bind fun h1 =>
  mm_ci (f_Md_crashed [.ref t, .int 0] h1) fun x3 h2 =>
  if x3 < 0 then
    (mm_gi 12 15 h2 t).bind fun x4 =>
    (mm_pf 12 15 (.int x4) h2 t).bind fun h5 =>
    some (some (.int x3), h5)
  else
    (mm_pf 12 15 (.int 0) h2 t).bind fun h6 =>
    some (some (.int x3), h6) := (mm_ga_is rfl).trans ((mm_gd_is hb).trans (e_Md_crash_0 mm_fu t h))
set_option maxRecDepth 100000 in
theorem i_Md_crash (l : Launch) : mm_Imp l yX12_crash cX12_crash 2 (some .int) 3 f_Md_crash := mm_imp l (P := p_Md_crash) mm_cls_ok mm_sys_ok (by decide) (mm_Pok_of (List.forall_mem_cons.mpr ⟨k_X12_1, (List.forall_mem_cons.mpr ⟨k_X12_449, (fun _ h => absurd h List.not_mem_nil)⟩)⟩) (List.forall_mem_cons.mpr ⟨v_Md_crashed l q_2261 (by decide), (fun _ h => absurd h List.not_mem_nil)⟩) (fun _ h => absurd h List.not_mem_nil) (fun _ h => absurd h List.not_mem_nil)) (by decide +kernel) rfl (cats := [1]) (fun as h r e => ⟨(mm_ga_inv e).1, (mm_gd_inv (mm_ga_inv e).2).1⟩) rfl (by decide)
theorem v_Md_crash (l : Launch) {own : String} {i n0 : Nat} (hl : Cond.methodLink own i yX12_crash ∈ mm_tbl) (hn : 4 ≤ n0) : mm_cok l own n0 i (0, 0, 1, f_Md_crash) := Or.inr (Or.inr ⟨rfl, yX12_crash, cX12_crash, 2, (some .int), 3, 12, TX12, 27, i_Md_crash l, hn, by decide, by decide +kernel, rfl, fun _ _ _ e => (mm_gd_inv (mm_ga_inv e).2).2, hl, q_2258, q_2259, q_179, q_2260⟩)
def p_Md_resume : mm_P := ([(0, .aload_n 0, 1, 0), (1, .iconst 0, 1, 0), (2, .putfield 1, 3, 0), (5, .aload_n 0, 1, 0), (6, .invokevirtual 458, 3, 0), (9, .aload_n 0, 1, 0), (10, .iconst 0, 1, 0), (11, .invokevirtual 502, 3, 0), (14, .istore_n 1, 1, 0), (15, .aload_n 0, 1, 0), (16, .iload_n 1, 1, 0), (17, .invokevirtual 467, 3, 0), (20, .ireturn, 1, 0)], [(1, 12, 0, 0)], [(458, 0, 0, 0, f_Md_aside), (467, 0, 1, 1, f_Md_done), (502, 0, 1, 1, f_Md_resumed)], [], [], [(0, [0])], [], 2)
def f_Md_resume : mm_F := fun args h => mm_ga [1] args (mm_gd 12 args h (mm_run p_Md_resume (mm_fu + 1) 0 args [] h))
set_option maxRecDepth 100000 in
theorem e_Md_resume_0 (f : Nat) (t : Nat) (h : mm_H) : mm_run p_Md_resume (f + 1) 0 [.ref t] [] h =
  (mm_pf 12 0 (.int 0) h t).bind fun h1 =>
  mm_cv (f_Md_aside [.ref t] h1) fun h2 =>
  mm_ci (f_Md_resumed [.ref t, .int 0] h2) fun x4 h3 =>
  mm_ci (f_Md_done [.ref t, .int x4] h3) fun x6 h5 =>
  some (some (.int x6), h5) := rfl
theorem e_Md_resume (t : Nat) (h : mm_H) {fs : List Value} (hb : h t = some (.inr (12, fs))) : f_Md_resume [.ref t] h =
  (mm_pf 12 0 (.int 0) h t).bind fun h1 =>
  mm_cv (f_Md_aside [.ref t] h1) fun h2 =>
  mm_ci (f_Md_resumed [.ref t, .int 0] h2) fun x4 h3 =>
  mm_ci (f_Md_done [.ref t, .int x4] h3) fun x6 h5 =>
  some (some (.int x6), h5) := (mm_ga_is rfl).trans ((mm_gd_is hb).trans (e_Md_resume_0 mm_fu t h))
set_option maxRecDepth 100000 in
theorem i_Md_resume (l : Launch) : mm_Imp l yX12_resume cX12_resume 2 (some .int) 7 f_Md_resume := mm_imp l (P := p_Md_resume) mm_cls_ok mm_sys_ok (by decide) (mm_Pok_of (List.forall_mem_cons.mpr ⟨k_X12_1, (fun _ h => absurd h List.not_mem_nil)⟩) (List.forall_mem_cons.mpr ⟨v_Md_aside l q_2055 (by decide), (List.forall_mem_cons.mpr ⟨v_Md_done l q_2090 (by decide), (List.forall_mem_cons.mpr ⟨v_Md_resumed l q_2269 (by decide), (fun _ h => absurd h List.not_mem_nil)⟩)⟩)⟩) (fun _ h => absurd h List.not_mem_nil) (fun _ h => absurd h List.not_mem_nil)) (by decide +kernel) rfl (cats := [1]) (fun as h r e => ⟨(mm_ga_inv e).1, (mm_gd_inv (mm_ga_inv e).2).1⟩) rfl (by decide)
theorem v_Md_resume (l : Launch) {own : String} {i n0 : Nat} (hl : Cond.methodLink own i yX12_resume ∈ mm_tbl) (hn : 8 ≤ n0) : mm_cok l own n0 i (0, 0, 1, f_Md_resume) := Or.inr (Or.inr ⟨rfl, yX12_resume, cX12_resume, 2, (some .int), 7, 12, TX12, 27, i_Md_resume l, hn, by decide, by decide +kernel, rfl, fun _ _ _ e => (mm_gd_inv (mm_ga_inv e).2).2, hl, q_2266, q_2267, q_179, q_2268⟩)
def p_Md_pack : mm_P := ([(0, .aload_n 0, 1, 0), (1, .iconst 0, 1, 0), (2, .putfield 1, 3, 0), (5, .aload_n 0, 1, 0), (6, .invokevirtual 458, 3, 0), (9, .aload_n 0, 1, 0), (10, .iload_n 1, 1, 0), (11, .invokevirtual 484, 3, 0), (14, .ifCond .eq 12, 3, 0), (17, .aload_n 0, 1, 0), (18, .iconst 0, 1, 0), (19, .iload_n 1, 1, 0), (20, .invokevirtual 505, 3, 0), (23, .goto 4, 3, 0), (26, .iconst (-1), 1, (-1)), (27, .istore_n 2, 1, 0), (28, .aload_n 0, 1, 0), (29, .iload_n 2, 1, 0), (30, .invokevirtual 467, 3, 0), (33, .ireturn, 1, 0)], [(1, 12, 0, 0)], [(458, 0, 0, 0, f_Md_aside), (467, 0, 1, 1, f_Md_done), (484, 0, 1, 1, f_Md_isIndex), (505, 0, 2, 1, f_Md_packs)], [], [], [(0, [0, 1])], [], 2)
def f_Md_pack : mm_F := fun args h => mm_ga [1, 1] args (mm_gd 12 args h (mm_run p_Md_pack (mm_fu + 1) 0 args [] h))
set_option maxRecDepth 100000 in
theorem e_Md_pack_0 (f : Nat) (t : Nat) (v1 : Int32) (h : mm_H) : mm_run p_Md_pack (f + 1) 0 [.ref t, .int v1] [] h =
  (mm_pf 12 0 (.int 0) h t).bind fun h1 =>
  mm_cv (f_Md_aside [.ref t] h1) fun h2 =>
  mm_ci (f_Md_isIndex [.ref t, .int v1] h2) fun x4 h3 =>
  if x4 = 0 then
    mm_ci (f_Md_done [.ref t, .int (-1)] h3) fun x6 h5 =>
    some (some (.int x6), h5)
  else
    mm_ci (f_Md_packs [.ref t, .int 0, .int v1] h3) fun x8 h7 =>
    mm_ci (f_Md_done [.ref t, .int x8] h7) fun x10 h9 =>
    some (some (.int x10), h9) := rfl
theorem e_Md_pack (t : Nat) (v1 : Int32) (h : mm_H) {fs : List Value} (hb : h t = some (.inr (12, fs))) : f_Md_pack [.ref t, .int v1] h =
  (mm_pf 12 0 (.int 0) h t).bind fun h1 =>
  mm_cv (f_Md_aside [.ref t] h1) fun h2 =>
  mm_ci (f_Md_isIndex [.ref t, .int v1] h2) fun x4 h3 =>
  if x4 = 0 then
    mm_ci (f_Md_done [.ref t, .int (-1)] h3) fun x6 h5 =>
    some (some (.int x6), h5)
  else
    mm_ci (f_Md_packs [.ref t, .int 0, .int v1] h3) fun x8 h7 =>
    mm_ci (f_Md_done [.ref t, .int x8] h7) fun x10 h9 =>
    some (some (.int x10), h9) := (mm_ga_is rfl).trans ((mm_gd_is hb).trans (e_Md_pack_0 mm_fu t v1 h))
set_option maxRecDepth 100000 in
theorem i_Md_pack (l : Launch) : mm_Imp l yX12_pack cX12_pack 3 (some .int) 5 f_Md_pack := mm_imp l (P := p_Md_pack) mm_cls_ok mm_sys_ok (by decide) (mm_Pok_of (List.forall_mem_cons.mpr ⟨k_X12_1, (fun _ h => absurd h List.not_mem_nil)⟩) (List.forall_mem_cons.mpr ⟨v_Md_aside l q_2055 (by decide), (List.forall_mem_cons.mpr ⟨v_Md_done l q_2090 (by decide), (List.forall_mem_cons.mpr ⟨v_Md_isIndex l q_2166 (by decide), (List.forall_mem_cons.mpr ⟨v_Md_packs l q_2277 (by decide), (fun _ h => absurd h List.not_mem_nil)⟩)⟩)⟩)⟩) (fun _ h => absurd h List.not_mem_nil) (fun _ h => absurd h List.not_mem_nil)) (by decide +kernel) rfl (cats := [1, 1]) (fun as h r e => ⟨(mm_ga_inv e).1, (mm_gd_inv (mm_ga_inv e).2).1⟩) rfl (by decide)
theorem v_Md_pack (l : Launch) {own : String} {i n0 : Nat} (hl : Cond.methodLink own i yX12_pack ∈ mm_tbl) (hn : 6 ≤ n0) : mm_cok l own n0 i (0, 1, 1, f_Md_pack) := Or.inr (Or.inr ⟨rfl, yX12_pack, cX12_pack, 3, (some .int), 5, 12, TX12, 27, i_Md_pack l, hn, by decide, by decide +kernel, rfl, fun _ _ _ e => (mm_gd_inv (mm_ga_inv e).2).2, hl, q_2274, q_2275, q_179, q_2276⟩)
def p_Md_undo : mm_P := ([(0, .aload_n 0, 1, 0), (1, .iconst 0, 1, 0), (2, .putfield 1, 3, 0), (5, .aload_n 0, 1, 0), (6, .getfield 449, 3, 0), (9, .ifCond .ne 5, 3, 0), (12, .iconst 0, 1, 0), (13, .ireturn, 1, 0), (14, .aload_n 0, 1, 0), (15, .dup, 1, 0), (16, .getfield 449, 3, 0), (19, .iconst 1, 1, 1), (20, .isub, 1, 0), (21, .putfield 449, 3, 0), (24, .aload_n 0, 1, 0), (25, .sipush 514, 3, 514), (28, .iconst 1, 1, 1), (29, .aload_n 0, 1, 0), (30, .getfield 449, 3, 0), (33, .iadd, 1, 0), (34, .imul, 1, 0), (35, .iconst 0, 1, 0), (36, .sipush 514, 3, 514), (39, .invokevirtual 362, 3, 0), (42, .iconst 1, 1, 1), (43, .ireturn, 1, 0)], [(1, 12, 0, 0), (449, 12, 15, 0)], [(362, 0, 3, 0, f_Md_copies)], [], [], [(0, [0])], [], 1)
def f_Md_undo : mm_F := fun args h => mm_ga [1] args (mm_gd 12 args h (mm_run p_Md_undo (mm_fu + 1) 0 args [] h))
set_option maxRecDepth 100000 in
theorem e_Md_undo_0 (f : Nat) (t : Nat) (h : mm_H) : mm_run p_Md_undo (f + 1) 0 [.ref t] [] h =
  (mm_pf 12 0 (.int 0) h t).bind fun h1 =>
  (mm_gi 12 15 h1 t).bind fun x2 =>
  if x2 = 0 then
    some (some (.int 0), h1)
  else
    (mm_gi 12 15 h1 t).bind fun x3 =>
    (mm_pf 12 15 (.int (x3 - 1)) h1 t).bind fun h4 =>
    (mm_gi 12 15 h4 t).bind fun x5 =>
    mm_cv (f_Md_copies [.ref t, .int (514 * (1 + x5)), .int 0, .int 514] h4) fun h6 =>
    some (some (.int 1), h6) := rfl
theorem e_Md_undo (t : Nat) (h : mm_H) {fs : List Value} (hb : h t = some (.inr (12, fs))) : f_Md_undo [.ref t] h =
  (mm_pf 12 0 (.int 0) h t).bind fun h1 =>
  (mm_gi 12 15 h1 t).bind fun x2 =>
  if x2 = 0 then
    some (some (.int 0), h1)
  else
    (mm_gi 12 15 h1 t).bind fun x3 =>
    (mm_pf 12 15 (.int (x3 - 1)) h1 t).bind fun h4 =>
    (mm_gi 12 15 h4 t).bind fun x5 =>
    mm_cv (f_Md_copies [.ref t, .int (514 * (1 + x5)), .int 0, .int 514] h4) fun h6 =>
    some (some (.int 1), h6) := (mm_ga_is rfl).trans ((mm_gd_is hb).trans (e_Md_undo_0 mm_fu t h))
set_option maxRecDepth 100000 in
theorem i_Md_undo (l : Launch) : mm_Imp l yX12_undo cX12_undo 1 (some .boolean) 2 f_Md_undo := mm_imp l (P := p_Md_undo) mm_cls_ok mm_sys_ok (by decide) (mm_Pok_of (List.forall_mem_cons.mpr ⟨k_X12_1, (List.forall_mem_cons.mpr ⟨k_X12_449, (fun _ h => absurd h List.not_mem_nil)⟩)⟩) (List.forall_mem_cons.mpr ⟨v_Md_copies l q_2059 (by decide), (fun _ h => absurd h List.not_mem_nil)⟩) (fun _ h => absurd h List.not_mem_nil) (fun _ h => absurd h List.not_mem_nil)) (by decide +kernel) rfl (cats := [1]) (fun as h r e => ⟨(mm_ga_inv e).1, (mm_gd_inv (mm_ga_inv e).2).1⟩) rfl (by decide)
theorem v_Md_undo (l : Launch) {own : String} {i n0 : Nat} (hl : Cond.methodLink own i yX12_undo ∈ mm_tbl) (hn : 3 ≤ n0) : mm_cok l own n0 i (0, 0, 1, f_Md_undo) := Or.inr (Or.inr ⟨rfl, yX12_undo, cX12_undo, 1, (some .boolean), 2, 12, TX12, 27, i_Md_undo l, hn, by decide, by decide +kernel, rfl, fun _ _ _ e => (mm_gd_inv (mm_ga_inv e).2).2, hl, q_2282, q_2283, q_179, q_2284⟩)
def p_Md_goes : mm_P := ([(0, .iconst 1, 1, 1), (1, .istore_n 3, 1, 0), (2, .iconst 0, 1, 0), (3, .istore 4, 2, 0), (5, .iload 4, 2, 0), (7, .iload_n 2, 1, 0), (8, .if_icmp .ge 28, 3, 0), (11, .iload_n 3, 1, 0), (12, .ifCond .eq 24, 3, 0), (15, .aload_n 0, 1, 0), (16, .iload_n 1, 1, 0), (17, .invokevirtual 493, 3, 0), (20, .iconst (-1), 1, (-1)), (21, .if_icmp .eq 7, 3, 0), (24, .iconst 1, 1, 1), (25, .goto 4, 3, 0), (28, .iconst 0, 1, 0), (29, .istore_n 3, 1, 0), (30, .iinc 4 1, 3, 1), (33, .goto (-28), 3, 0), (36, .iload_n 3, 1, 0), (37, .ireturn, 1, 0)], [], [(493, 0, 1, 1, f_Md_stepped)], [], [], [(0, [0, 1, 2]), (5, [0, 1, 2, 3, 4])], [], 1)
def f_Md_goes : mm_F := fun args h => mm_ga [1, 1, 1] args (mm_gd 12 args h (mm_run p_Md_goes (mm_fu + 1) 0 args [] h))
set_option maxRecDepth 100000 in
theorem e_Md_goes_0 (f : Nat) (t : Nat) (v1 : Int32) (v2 : Int32) (h : mm_H) : mm_run p_Md_goes (f + 1) 0 [.ref t, .int v1, .int v2] [] h =
  mm_run p_Md_goes f 5 [.ref t, .int v1, .int v2, .int 1, .int 0] [] h := rfl
theorem e_Md_goes (t : Nat) (v1 : Int32) (v2 : Int32) (h : mm_H) {fs : List Value} (hb : h t = some (.inr (12, fs))) : f_Md_goes [.ref t, .int v1, .int v2] h =
  mm_run p_Md_goes mm_fu 5 [.ref t, .int v1, .int v2, .int 1, .int 0] [] h := (mm_ga_is rfl).trans ((mm_gd_is hb).trans (e_Md_goes_0 mm_fu t v1 v2 h))
set_option maxRecDepth 100000 in
theorem e_Md_goes_5 (f : Nat) (t : Nat) (v1 : Int32) (v2 : Int32) (v3 : Int32) (v4 : Int32) (h : mm_H) : mm_run p_Md_goes (f + 1) 5 [.ref t, .int v1, .int v2, .int v3, .int v4] [] h =
  if v4 < v2 then
    if v3 = 0 then
      if v3 = 0 ∨ v3 = 1 then some (some (.int v3), h) else none
    else
      mm_ci (f_Md_stepped [.ref t, .int v1] h) fun x2 h1 =>
      if x2 = (-1) then
        mm_run p_Md_goes f 5 [.ref t, .int v1, .int v2, .int 0, .int (v4 + 1)] [] h1
      else
        mm_run p_Md_goes f 5 [.ref t, .int v1, .int v2, .int 1, .int (v4 + 1)] [] h1
  else
    if v3 = 0 ∨ v3 = 1 then some (some (.int v3), h) else none := rfl
set_option maxRecDepth 100000 in
theorem i_Md_goes (l : Launch) : mm_Imp l yX12_goes cX12_goes 5 (some .boolean) 10 f_Md_goes := mm_imp l (P := p_Md_goes) mm_cls_ok mm_sys_ok (by decide) (mm_Pok_of (fun _ h => absurd h List.not_mem_nil) (List.forall_mem_cons.mpr ⟨v_Md_stepped l q_2221 (by decide), (fun _ h => absurd h List.not_mem_nil)⟩) (fun _ h => absurd h List.not_mem_nil) (fun _ h => absurd h List.not_mem_nil)) (by decide +kernel) rfl (cats := [1, 1, 1]) (fun as h r e => ⟨(mm_ga_inv e).1, (mm_gd_inv (mm_ga_inv e).2).1⟩) rfl (by decide)
theorem v_Md_goes (l : Launch) {own : String} {i n0 : Nat} (hl : Cond.methodLink own i yX12_goes ∈ mm_tbl) (hn : 11 ≤ n0) : mm_cok l own n0 i (0, 2, 1, f_Md_goes) := Or.inr (Or.inr ⟨rfl, yX12_goes, cX12_goes, 5, (some .boolean), 10, 12, TX12, 27, i_Md_goes l, hn, by decide, by decide +kernel, rfl, fun _ _ _ e => (mm_gd_inv (mm_ga_inv e).2).2, hl, q_2299, q_147, q_179, q_2300⟩)
def p_Md_begunOfAll : mm_P := ([(0, .aload_n 0, 1, 0), (1, .iload_n 1, 1, 0), (2, .invokevirtual 341, 3, 0), (5, .istore_n 2, 1, 0), (6, .aload_n 0, 1, 0), (7, .iload_n 1, 1, 0), (8, .iload_n 2, 1, 0), (9, .invokevirtual 490, 3, 0), (12, .ireturn, 1, 0)], [], [(341, 0, 1, 1, f_Md_wouldChoose), (490, 0, 2, 1, f_Md_begun)], [], [], [(0, [0, 1])], [], 2)
def f_Md_begunOfAll : mm_F := fun args h => mm_ga [1, 1] args (mm_gd 12 args h (mm_run p_Md_begunOfAll (mm_fu + 1) 0 args [] h))
set_option maxRecDepth 100000 in
theorem e_Md_begunOfAll_0 (f : Nat) (t : Nat) (v1 : Int32) (h : mm_H) : mm_run p_Md_begunOfAll (f + 1) 0 [.ref t, .int v1] [] h =
  mm_ci (f_Md_wouldChoose [.ref t, .int v1] h) fun x2 h1 =>
  mm_ci (f_Md_begun [.ref t, .int v1, .int x2] h1) fun x4 h3 =>
  some (some (.int x4), h3) := rfl
theorem e_Md_begunOfAll (t : Nat) (v1 : Int32) (h : mm_H) {fs : List Value} (hb : h t = some (.inr (12, fs))) : f_Md_begunOfAll [.ref t, .int v1] h =
  mm_ci (f_Md_wouldChoose [.ref t, .int v1] h) fun x2 h1 =>
  mm_ci (f_Md_begun [.ref t, .int v1, .int x2] h1) fun x4 h3 =>
  some (some (.int x4), h3) := (mm_ga_is rfl).trans ((mm_gd_is hb).trans (e_Md_begunOfAll_0 mm_fu t v1 h))
set_option maxRecDepth 100000 in
theorem i_Md_begunOfAll (l : Launch) : mm_Imp l yX12_begunOfAll cX12_begunOfAll 3 (some .int) 9 f_Md_begunOfAll := mm_imp l (P := p_Md_begunOfAll) mm_cls_ok mm_sys_ok (by decide) (mm_Pok_of (fun _ h => absurd h List.not_mem_nil) (List.forall_mem_cons.mpr ⟨v_Md_wouldChoose l q_2162 (by decide), (List.forall_mem_cons.mpr ⟨v_Md_begun l q_2178 (by decide), (fun _ h => absurd h List.not_mem_nil)⟩)⟩) (fun _ h => absurd h List.not_mem_nil) (fun _ h => absurd h List.not_mem_nil)) (by decide +kernel) rfl (cats := [1, 1]) (fun as h r e => ⟨(mm_ga_inv e).1, (mm_gd_inv (mm_ga_inv e).2).1⟩) rfl (by decide)
theorem v_Md_begunOfAll (l : Launch) {own : String} {i n0 : Nat} (hl : Cond.methodLink own i yX12_begunOfAll ∈ mm_tbl) (hn : 10 ≤ n0) : mm_cok l own n0 i (0, 1, 1, f_Md_begunOfAll) := Or.inr (Or.inr ⟨rfl, yX12_begunOfAll, cX12_begunOfAll, 3, (some .int), 9, 12, TX12, 27, i_Md_begunOfAll l, hn, by decide, by decide +kernel, rfl, fun _ _ _ e => (mm_gd_inv (mm_ga_inv e).2).2, hl, q_2295, q_146, q_179, q_2296⟩)
def p_Md_lineDone : mm_P := ([(0, .aload_n 0, 1, 0), (1, .getfield 120, 3, 0), (4, .iload_n 2, 1, 0), (5, .iconst 1, 1, 1), (6, .iadd, 1, 0), (7, .iaload, 1, 0), (8, .istore_n 3, 1, 0), (9, .aload_n 0, 1, 0), (10, .getfield 120, 3, 0), (13, .iload_n 2, 1, 0), (14, .iaload, 1, 0), (15, .tableswitch 161 0 7 #[45, 76, 83, 106, 120, 127, 133, 147], 45, 0), (60, .aload_n 0, 1, 0), (61, .iload_n 1, 1, 0), (62, .iload_n 3, 1, 0), (63, .aload_n 0, 1, 0), (64, .getfield 120, 3, 0), (67, .iload_n 2, 1, 0), (68, .iconst 2, 1, 2), (69, .iadd, 1, 0), (70, .iaload, 1, 0), (71, .aload_n 0, 1, 0), (72, .getfield 120, 3, 0), (75, .iload_n 2, 1, 0), (76, .iconst 3, 1, 3), (77, .iadd, 1, 0), (78, .iaload, 1, 0), (79, .invokevirtual 464, 3, 0), (82, .ifCond .lt 7, 3, 0), (85, .iconst 1, 1, 1), (86, .goto 4, 3, 0), (89, .iconst 0, 1, 0), (90, .ireturn, 1, 0), (91, .aload_n 0, 1, 0), (92, .iload_n 1, 1, 0), (93, .iload_n 3, 1, 0), (94, .invokevirtual 470, 3, 0), (97, .ireturn, 1, 0), (98, .aload_n 0, 1, 0), (99, .iload_n 1, 1, 0), (100, .iload_n 3, 1, 0), (101, .aload_n 0, 1, 0), (102, .getfield 120, 3, 0), (105, .iload_n 2, 1, 0), (106, .iconst 2, 1, 2), (107, .iadd, 1, 0), (108, .iaload, 1, 0), (109, .aload_n 0, 1, 0), (110, .getfield 120, 3, 0), (113, .iload_n 2, 1, 0), (114, .iconst 3, 1, 3), (115, .iadd, 1, 0), (116, .iaload, 1, 0), (117, .invokevirtual 477, 3, 0), (120, .ireturn, 1, 0), (121, .aload_n 0, 1, 0), (122, .iload_n 1, 1, 0), (123, .invokevirtual 508, 3, 0), (126, .ifCond .lt 7, 3, 0), (129, .iconst 1, 1, 1), (130, .goto 4, 3, 0), (133, .iconst 0, 1, 0), (134, .ireturn, 1, 0), (135, .aload_n 0, 1, 0), (136, .iload_n 1, 1, 0), (137, .iload_n 3, 1, 0), (138, .invokevirtual 511, 3, 0), (141, .ireturn, 1, 0), (142, .aload_n 0, 1, 0), (143, .iload_n 1, 1, 0), (144, .invokevirtual 496, 3, 0), (147, .ireturn, 1, 0), (148, .aload_n 0, 1, 0), (149, .iload_n 1, 1, 0), (150, .invokevirtual 499, 3, 0), (153, .ifCond .lt 7, 3, 0), (156, .iconst 1, 1, 1), (157, .goto 4, 3, 0), (160, .iconst 0, 1, 0), (161, .ireturn, 1, 0), (162, .aload_n 0, 1, 0), (163, .iload_n 1, 1, 0), (164, .invokevirtual 502, 3, 0), (167, .ifCond .lt 7, 3, 0), (170, .iconst 1, 1, 1), (171, .goto 4, 3, 0), (174, .iconst 0, 1, 0), (175, .ireturn, 1, 0), (176, .aload_n 0, 1, 0), (177, .iload_n 1, 1, 0), (178, .iload_n 3, 1, 0), (179, .invokevirtual 505, 3, 0), (182, .ifCond .lt 7, 3, 0), (185, .iconst 1, 1, 1), (186, .goto 4, 3, 0), (189, .iconst 0, 1, 0), (190, .ireturn, 1, 0)], [(120, 12, 13, 4)], [(464, 0, 4, 1, f_Md_inserted), (470, 0, 2, 1, f_Md_removed), (477, 0, 4, 1, f_Md_changed), (496, 0, 1, 1, f_Md_stopped), (499, 0, 1, 1, f_Md_crashed), (502, 0, 1, 1, f_Md_resumed), (505, 0, 2, 1, f_Md_packs), (508, 0, 1, 1, f_Md_begunOfAll), (511, 0, 2, 1, f_Md_goes)], [], [], [(0, [0, 1, 2])], [(15, [(0, 60), (1, 91), (2, 98), (3, 121), (4, 135), (5, 142), (6, 148), (7, 162)], 176)], 1)
def f_Md_lineDone : mm_F := fun args h => mm_ga [1, 1, 1] args (mm_gd 12 args h (mm_run p_Md_lineDone (mm_fu + 1) 0 args [] h))
set_option maxRecDepth 100000 in
theorem e_Md_lineDone_0 (f : Nat) (t : Nat) (v1 : Int32) (v2 : Int32) (h : mm_H) : mm_run p_Md_lineDone (f + 1) 0 [.ref t, .int v1, .int v2] [] h =
  (mm_gr 12 13 h t).bind fun r1 =>
  (mm_li h r1 (v2 + 1)).bind fun x2 =>
  (mm_gr 12 13 h t).bind fun r3 =>
  (mm_li h r3 v2).bind fun x4 =>
  if x4 = 0 then
    (mm_gr 12 13 h t).bind fun r5 =>
    (mm_li h r5 (v2 + 2)).bind fun x6 =>
    (mm_gr 12 13 h t).bind fun r7 =>
    (mm_li h r7 (v2 + 3)).bind fun x8 =>
    mm_ci (f_Md_inserted [.ref t, .int v1, .int x2, .int x6, .int x8] h) fun x10 h9 =>
    if x10 < 0 then
      some (some (.int 0), h9)
    else
      some (some (.int 1), h9)
  else if x4 = 1 then
    mm_ci (f_Md_removed [.ref t, .int v1, .int x2] h) fun x12 h11 =>
    if x12 = 0 ∨ x12 = 1 then some (some (.int x12), h11) else none
  else if x4 = 2 then
    (mm_gr 12 13 h t).bind fun r13 =>
    (mm_li h r13 (v2 + 2)).bind fun x14 =>
    (mm_gr 12 13 h t).bind fun r15 =>
    (mm_li h r15 (v2 + 3)).bind fun x16 =>
    mm_ci (f_Md_changed [.ref t, .int v1, .int x2, .int x14, .int x16] h) fun x18 h17 =>
    if x18 = 0 ∨ x18 = 1 then some (some (.int x18), h17) else none
  else if x4 = 3 then
    mm_ci (f_Md_begunOfAll [.ref t, .int v1] h) fun x20 h19 =>
    if x20 < 0 then
      some (some (.int 0), h19)
    else
      some (some (.int 1), h19)
  else if x4 = 4 then
    mm_ci (f_Md_goes [.ref t, .int v1, .int x2] h) fun x22 h21 =>
    if x22 = 0 ∨ x22 = 1 then some (some (.int x22), h21) else none
  else if x4 = 5 then
    mm_ci (f_Md_stopped [.ref t, .int v1] h) fun x24 h23 =>
    if x24 = 0 ∨ x24 = 1 then some (some (.int x24), h23) else none
  else if x4 = 6 then
    mm_ci (f_Md_crashed [.ref t, .int v1] h) fun x26 h25 =>
    if x26 < 0 then
      some (some (.int 0), h25)
    else
      some (some (.int 1), h25)
  else if x4 = 7 then
    mm_ci (f_Md_resumed [.ref t, .int v1] h) fun x28 h27 =>
    if x28 < 0 then
      some (some (.int 0), h27)
    else
      some (some (.int 1), h27)
  else 
    mm_ci (f_Md_packs [.ref t, .int v1, .int x2] h) fun x30 h29 =>
    if x30 < 0 then
      some (some (.int 0), h29)
    else
      some (some (.int 1), h29) := rfl
theorem e_Md_lineDone (t : Nat) (v1 : Int32) (v2 : Int32) (h : mm_H) {fs : List Value} (hb : h t = some (.inr (12, fs))) : f_Md_lineDone [.ref t, .int v1, .int v2] h =
  (mm_gr 12 13 h t).bind fun r1 =>
  (mm_li h r1 (v2 + 1)).bind fun x2 =>
  (mm_gr 12 13 h t).bind fun r3 =>
  (mm_li h r3 v2).bind fun x4 =>
  if x4 = 0 then
    (mm_gr 12 13 h t).bind fun r5 =>
    (mm_li h r5 (v2 + 2)).bind fun x6 =>
    (mm_gr 12 13 h t).bind fun r7 =>
    (mm_li h r7 (v2 + 3)).bind fun x8 =>
    mm_ci (f_Md_inserted [.ref t, .int v1, .int x2, .int x6, .int x8] h) fun x10 h9 =>
    if x10 < 0 then
      some (some (.int 0), h9)
    else
      some (some (.int 1), h9)
  else if x4 = 1 then
    mm_ci (f_Md_removed [.ref t, .int v1, .int x2] h) fun x12 h11 =>
    if x12 = 0 ∨ x12 = 1 then some (some (.int x12), h11) else none
  else if x4 = 2 then
    (mm_gr 12 13 h t).bind fun r13 =>
    (mm_li h r13 (v2 + 2)).bind fun x14 =>
    (mm_gr 12 13 h t).bind fun r15 =>
    (mm_li h r15 (v2 + 3)).bind fun x16 =>
    mm_ci (f_Md_changed [.ref t, .int v1, .int x2, .int x14, .int x16] h) fun x18 h17 =>
    if x18 = 0 ∨ x18 = 1 then some (some (.int x18), h17) else none
  else if x4 = 3 then
    mm_ci (f_Md_begunOfAll [.ref t, .int v1] h) fun x20 h19 =>
    if x20 < 0 then
      some (some (.int 0), h19)
    else
      some (some (.int 1), h19)
  else if x4 = 4 then
    mm_ci (f_Md_goes [.ref t, .int v1, .int x2] h) fun x22 h21 =>
    if x22 = 0 ∨ x22 = 1 then some (some (.int x22), h21) else none
  else if x4 = 5 then
    mm_ci (f_Md_stopped [.ref t, .int v1] h) fun x24 h23 =>
    if x24 = 0 ∨ x24 = 1 then some (some (.int x24), h23) else none
  else if x4 = 6 then
    mm_ci (f_Md_crashed [.ref t, .int v1] h) fun x26 h25 =>
    if x26 < 0 then
      some (some (.int 0), h25)
    else
      some (some (.int 1), h25)
  else if x4 = 7 then
    mm_ci (f_Md_resumed [.ref t, .int v1] h) fun x28 h27 =>
    if x28 < 0 then
      some (some (.int 0), h27)
    else
      some (some (.int 1), h27)
  else 
    mm_ci (f_Md_packs [.ref t, .int v1, .int x2] h) fun x30 h29 =>
    if x30 < 0 then
      some (some (.int 0), h29)
    else
      some (some (.int 1), h29) := (mm_ga_is rfl).trans ((mm_gd_is hb).trans (e_Md_lineDone_0 mm_fu t v1 v2 h))
set_option maxRecDepth 100000 in
theorem i_Md_lineDone (l : Launch) : mm_Imp l yX12_lineDone cX12_lineDone 4 (some .boolean) 11 f_Md_lineDone := mm_imp l (P := p_Md_lineDone) mm_cls_ok mm_sys_ok (by decide) (mm_Pok_of (List.forall_mem_cons.mpr ⟨k_X12_120, (fun _ h => absurd h List.not_mem_nil)⟩) (List.forall_mem_cons.mpr ⟨v_Md_inserted l q_2066 (by decide), (List.forall_mem_cons.mpr ⟨v_Md_removed l q_2102 (by decide), (List.forall_mem_cons.mpr ⟨v_Md_changed l q_2139 (by decide), (List.forall_mem_cons.mpr ⟨v_Md_stopped l q_2253 (by decide), (List.forall_mem_cons.mpr ⟨v_Md_crashed l q_2261 (by decide), (List.forall_mem_cons.mpr ⟨v_Md_resumed l q_2269 (by decide), (List.forall_mem_cons.mpr ⟨v_Md_packs l q_2277 (by decide), (List.forall_mem_cons.mpr ⟨v_Md_begunOfAll l q_2293 (by decide), (List.forall_mem_cons.mpr ⟨v_Md_goes l q_2297 (by decide), (fun _ h => absurd h List.not_mem_nil)⟩)⟩)⟩)⟩)⟩)⟩)⟩)⟩)⟩) (fun _ h => absurd h List.not_mem_nil) (fun _ h => absurd h List.not_mem_nil)) (by decide +kernel) rfl (cats := [1, 1, 1]) (fun as h r e => ⟨(mm_ga_inv e).1, (mm_gd_inv (mm_ga_inv e).2).1⟩) rfl (by decide)
theorem v_Md_lineDone (l : Launch) {own : String} {i n0 : Nat} (hl : Cond.methodLink own i yX12_lineDone ∈ mm_tbl) (hn : 12 ≤ n0) : mm_cok l own n0 i (0, 2, 1, f_Md_lineDone) := Or.inr (Or.inr ⟨rfl, yX12_lineDone, cX12_lineDone, 4, (some .boolean), 11, 12, TX12, 27, i_Md_lineDone l, hn, by decide, by decide +kernel, rfl, fun _ _ _ e => (mm_gd_inv (mm_ga_inv e).2).2, hl, q_2291, q_145, q_179, q_2292⟩)
def p_Md_judged : mm_P := ([(0, .aload_n 0, 1, 0), (1, .iconst 0, 1, 0), (2, .putfield 1, 3, 0), (5, .iload_n 1, 1, 0), (6, .iconst 0, 1, 0), (7, .iconst 2, 1, 2), (8, .invokestatic 275, 3, 0), (11, .ifCond .ne 6, 3, 0), (14, .bipush (-2), 2, (-2)), (16, .ireturn, 1, 0), (17, .aload_n 0, 1, 0), (18, .sipush 8738, 3, 8738), (21, .invokevirtual 446, 3, 0), (24, .iconst (-1), 1, (-1)), (25, .istore_n 2, 1, 0), (26, .iconst 0, 1, 0), (27, .istore_n 3, 1, 0), (28, .iload_n 3, 1, 0), (29, .aload_n 0, 1, 0), (30, .getfield 120, 3, 0), (33, .iconst 0, 1, 0), (34, .iaload, 1, 0), (35, .if_icmp .ge 38, 3, 0), (38, .aload_n 0, 1, 0), (39, .sipush 8738, 3, 8738), (42, .iconst 1, 1, 1), (43, .iconst 4, 1, 4), (44, .iload_n 3, 1, 0), (45, .imul, 1, 0), (46, .iadd, 1, 0), (47, .invokevirtual 514, 3, 0), (50, .istore 4, 2, 0), (52, .iload 4, 2, 0), (54, .ifCond .ne 11, 3, 0), (57, .iload_n 2, 1, 0), (58, .ifCond .ge 7, 3, 0), (61, .iload_n 3, 1, 0), (62, .goto 4, 3, 0), (65, .iload_n 2, 1, 0), (66, .istore_n 2, 1, 0), (67, .iinc 3 1, 3, 1), (70, .goto (-42), 3, 0), (73, .iload_n 1, 1, 0), (74, .ifCond .ne 7, 3, 0), (77, .iload_n 2, 1, 0), (78, .goto 29, 3, 0), (81, .iload_n 1, 1, 0), (82, .iconst 1, 1, 1), (83, .if_icmp .ne 16, 3, 0), (86, .aload_n 0, 1, 0), (87, .sipush 8738, 3, 8738), (90, .invokevirtual 279, 3, 0), (93, .invokestatic 380, 3, 0), (96, .goto 11, 3, 0), (99, .aload_n 0, 1, 0), (100, .getfield 123, 3, 0), (103, .sipush 8741, 3, 8741), (106, .iaload, 1, 0), (107, .ireturn, 1, 0)], [(1, 12, 0, 0), (120, 12, 13, 4), (123, 12, 14, 4)], [(275, 1, 3, 1, f_Md_within), (279, 0, 1, 1, f_Md_visible), (380, 1, 1, 1, f_Md_manyOf), (446, 0, 1, 0, f_Md_starts), (514, 0, 2, 1, f_Md_lineDone)], [], [], [(0, [0, 1]), (28, [0, 1, 2, 3])], [], 2)
def f_Md_judged : mm_F := fun args h => mm_ga [1, 1] args (mm_gd 12 args h (mm_run p_Md_judged (mm_fu + 1) 0 args [] h))
set_option maxRecDepth 100000 in
theorem e_Md_judged_0 (f : Nat) (t : Nat) (v1 : Int32) (h : mm_H) : mm_run p_Md_judged (f + 1) 0 [.ref t, .int v1] [] h =
  (mm_pf 12 0 (.int 0) h t).bind fun h1 =>
  mm_ci (f_Md_within [.int v1, .int 0, .int 2] h1) fun x3 h2 =>
  if x3 = 0 then
    some (some (.int (-2)), h2)
  else
    mm_cv (f_Md_starts [.ref t, .int 8738] h2) fun h4 =>
    mm_run p_Md_judged f 28 [.ref t, .int v1, .int (-1), .int 0] [] h4 := rfl
theorem e_Md_judged (t : Nat) (v1 : Int32) (h : mm_H) {fs : List Value} (hb : h t = some (.inr (12, fs))) : f_Md_judged [.ref t, .int v1] h =
  (mm_pf 12 0 (.int 0) h t).bind fun h1 =>
  mm_ci (f_Md_within [.int v1, .int 0, .int 2] h1) fun x3 h2 =>
  if x3 = 0 then
    some (some (.int (-2)), h2)
  else
    mm_cv (f_Md_starts [.ref t, .int 8738] h2) fun h4 =>
    mm_run p_Md_judged mm_fu 28 [.ref t, .int v1, .int (-1), .int 0] [] h4 := (mm_ga_is rfl).trans ((mm_gd_is hb).trans (e_Md_judged_0 mm_fu t v1 h))
set_option maxRecDepth 100000 in
theorem e_Md_judged_28 (f : Nat) (t : Nat) (v1 : Int32) (v2 : Int32) (v3 : Int32) (h : mm_H) : mm_run p_Md_judged (f + 1) 28 [.ref t, .int v1, .int v2, .int v3] [] h =
  (mm_gr 12 13 h t).bind fun r1 =>
  (mm_li h r1 0).bind fun x2 =>
  if v3 < x2 then
    mm_ci (f_Md_lineDone [.ref t, .int 8738, .int (1 + (4 * v3))] h) fun x4 h3 =>
    if x4 = 0 then
      if v2 < 0 then
        mm_run p_Md_judged f 28 [.ref t, .int v1, .int v3, .int (v3 + 1)] [] h3
      else
        mm_run p_Md_judged f 28 [.ref t, .int v1, .int v2, .int (v3 + 1)] [] h3
    else
      mm_run p_Md_judged f 28 [.ref t, .int v1, .int v2, .int (v3 + 1)] [] h3
  else
    if v1 = 0 then
      some (some (.int v2), h)
    else
      if v1 = 1 then
        mm_ci (f_Md_visible [.ref t, .int 8738] h) fun x6 h5 =>
        mm_ci (f_Md_manyOf [.int x6] h5) fun x8 h7 =>
        some (some (.int x8), h7)
      else
        (mm_gr 12 14 h t).bind fun r9 =>
        (mm_li h r9 8741).bind fun x10 =>
        some (some (.int x10), h) := rfl
set_option maxRecDepth 100000 in
theorem i_Md_judged (l : Launch) : mm_Imp l yX12_judged cX12_judged 5 (some .int) 12 f_Md_judged := mm_imp l (P := p_Md_judged) mm_cls_ok mm_sys_ok (by decide) (mm_Pok_of (List.forall_mem_cons.mpr ⟨k_X12_1, (List.forall_mem_cons.mpr ⟨k_X12_120, (List.forall_mem_cons.mpr ⟨k_X12_123, (fun _ h => absurd h List.not_mem_nil)⟩)⟩)⟩) (List.forall_mem_cons.mpr ⟨v_Md_within l (Or.inl q_1769) (by decide), (List.forall_mem_cons.mpr ⟨v_Md_visible l q_1772 (by decide), (List.forall_mem_cons.mpr ⟨v_Md_manyOf l (Or.inl q_2214) (by decide), (List.forall_mem_cons.mpr ⟨v_Md_starts l q_1737 (by decide), (List.forall_mem_cons.mpr ⟨v_Md_lineDone l q_2289 (by decide), (fun _ h => absurd h List.not_mem_nil)⟩)⟩)⟩)⟩)⟩) (fun _ h => absurd h List.not_mem_nil) (fun _ h => absurd h List.not_mem_nil)) (by decide +kernel) rfl (cats := [1, 1]) (fun as h r e => ⟨(mm_ga_inv e).1, (mm_gd_inv (mm_ga_inv e).2).1⟩) rfl (by decide)
theorem v_Md_judged (l : Launch) {own : String} {i n0 : Nat} (hl : Cond.methodLink own i yX12_judged ∈ mm_tbl) (hn : 13 ≤ n0) : mm_cok l own n0 i (0, 1, 1, f_Md_judged) := Or.inr (Or.inr ⟨rfl, yX12_judged, cX12_judged, 5, (some .int), 12, 12, TX12, 27, i_Md_judged l, hn, by decide, by decide +kernel, rfl, fun _ _ _ e => (mm_gd_inv (mm_ga_inv e).2).2, hl, q_2286, q_2287, q_179, q_2288⟩)
def p_Md_row : mm_P := ([(0, .aload_n 0, 1, 0), (1, .iconst 0, 1, 0), (2, .putfield 1, 3, 0), (5, .iload_n 1, 1, 0), (6, .ifCond .lt 22, 3, 0), (9, .iload_n 1, 1, 0), (10, .aload_n 0, 1, 0), (11, .getfield 123, 3, 0), (14, .iconst 2, 1, 2), (15, .iaload, 1, 0), (16, .if_icmp .ge 12, 3, 0), (19, .iload_n 2, 1, 0), (20, .iconst 0, 1, 0), (21, .iconst 5, 1, 5), (22, .invokestatic 275, 3, 0), (25, .ifCond .ne 5, 3, 0), (28, .iconst (-1), 1, (-1)), (29, .ireturn, 1, 0), (30, .iload_n 2, 1, 0), (31, .iconst 3, 1, 3), (32, .if_icmp .ge 11, 3, 0), (35, .aload_n 0, 1, 0), (36, .iconst 0, 1, 0), (37, .iload_n 1, 1, 0), (38, .iload_n 2, 1, 0), (39, .invokevirtual 286, 3, 0), (42, .ireturn, 1, 0), (43, .iload_n 2, 1, 0), (44, .iconst 5, 1, 5), (45, .if_icmp .ge 23, 3, 0), (48, .aload_n 0, 1, 0), (49, .getfield 123, 3, 0), (52, .iload_n 2, 1, 0), (53, .iconst 3, 1, 3), (54, .if_icmp .ne 7, 3, 0), (57, .iconst 0, 1, 0), (58, .goto 4, 3, 0), (61, .iconst 1, 1, 1), (62, .iaload, 1, 0), (63, .iload_n 1, 1, 0), (64, .ishr, 1, 0), (65, .iconst 1, 1, 1), (66, .iand, 1, 0), (67, .ireturn, 1, 0), (68, .iconst 0, 1, 0), (69, .istore_n 3, 1, 0), (70, .iconst 0, 1, 0), (71, .istore 4, 2, 0), (73, .iload 4, 2, 0), (75, .aload_n 0, 1, 0), (76, .invokevirtual 268, 3, 0), (79, .if_icmp .ge 54, 3, 0), (82, .iconst 0, 1, 0), (83, .istore 5, 2, 0), (85, .iload 5, 2, 0), (87, .aload_n 0, 1, 0), (88, .iconst 0, 1, 0), (89, .iload 4, 2, 0), (91, .invokevirtual 311, 3, 0), (94, .if_icmp .ge 33, 3, 0), (97, .iload_n 3, 1, 0), (98, .aload_n 0, 1, 0), (99, .iconst 0, 1, 0), (100, .iload 4, 2, 0), (102, .iload 5, 2, 0), (104, .invokevirtual 344, 3, 0), (107, .iload_n 1, 1, 0), (108, .if_icmp .ne 10, 3, 0), (111, .iconst 1, 1, 1), (112, .iload 4, 2, 0), (114, .ishl, 1, 0), (115, .goto 4, 3, 0), (118, .iconst 0, 1, 0), (119, .ior, 1, 0), (120, .istore_n 3, 1, 0), (121, .iinc 5 1, 3, 1), (124, .goto (-39), 3, 0), (127, .iinc 4 1, 3, 1), (130, .goto (-57), 3, 0), (133, .iload_n 3, 1, 0), (134, .ireturn, 1, 0)], [(1, 12, 0, 0), (123, 12, 14, 4)], [(268, 0, 0, 1, f_Md_indexes), (275, 1, 3, 1, f_Md_within), (286, 0, 3, 1, f_Md_valueOf), (311, 0, 2, 1, f_Md_entries), (344, 0, 3, 1, f_Md_rowAt)], [], [], [(0, [0, 1, 2]), (73, [0, 1, 3, 4]), (85, [0, 1, 3, 4, 5])], [], 2)
def f_Md_row : mm_F := fun args h => mm_ga [1, 1, 1] args (mm_gd 12 args h (mm_run p_Md_row (mm_fu + 1) 0 args [] h))
set_option maxRecDepth 100000 in
theorem e_Md_row_0 (f : Nat) (t : Nat) (v1 : Int32) (v2 : Int32) (h : mm_H) : mm_run p_Md_row (f + 1) 0 [.ref t, .int v1, .int v2] [] h =
  (mm_pf 12 0 (.int 0) h t).bind fun h1 =>
  if v1 < 0 then
    some (some (.int (-1)), h1)
  else
    (mm_gr 12 14 h1 t).bind fun r2 =>
    (mm_li h1 r2 2).bind fun x3 =>
    if v1 < x3 then
      mm_ci (f_Md_within [.int v2, .int 0, .int 5] h1) fun x5 h4 =>
      if x5 = 0 then
        some (some (.int (-1)), h4)
      else
        if v2 < 3 then
          mm_ci (f_Md_valueOf [.ref t, .int 0, .int v1, .int v2] h4) fun x7 h6 =>
          some (some (.int x7), h6)
        else
          if v2 < 5 then
            (mm_gr 12 14 h4 t).bind fun r8 =>
            if v2 = 3 then
              (mm_li h4 r8 0).bind fun x9 =>
              some (some (.int ((x9 >>> (v1 &&& 31)) &&& 1)), h4)
            else
              (mm_li h4 r8 1).bind fun x10 =>
              some (some (.int ((x10 >>> (v1 &&& 31)) &&& 1)), h4)
          else
            mm_run p_Md_row f 73 [.ref t, .int v1, .int 0, .int 0] [] h4
    else
      some (some (.int (-1)), h1) := rfl
theorem e_Md_row (t : Nat) (v1 : Int32) (v2 : Int32) (h : mm_H) {fs : List Value} (hb : h t = some (.inr (12, fs))) : f_Md_row [.ref t, .int v1, .int v2] h =
  (mm_pf 12 0 (.int 0) h t).bind fun h1 =>
  if v1 < 0 then
    some (some (.int (-1)), h1)
  else
    (mm_gr 12 14 h1 t).bind fun r2 =>
    (mm_li h1 r2 2).bind fun x3 =>
    if v1 < x3 then
      mm_ci (f_Md_within [.int v2, .int 0, .int 5] h1) fun x5 h4 =>
      if x5 = 0 then
        some (some (.int (-1)), h4)
      else
        if v2 < 3 then
          mm_ci (f_Md_valueOf [.ref t, .int 0, .int v1, .int v2] h4) fun x7 h6 =>
          some (some (.int x7), h6)
        else
          if v2 < 5 then
            (mm_gr 12 14 h4 t).bind fun r8 =>
            if v2 = 3 then
              (mm_li h4 r8 0).bind fun x9 =>
              some (some (.int ((x9 >>> (v1 &&& 31)) &&& 1)), h4)
            else
              (mm_li h4 r8 1).bind fun x10 =>
              some (some (.int ((x10 >>> (v1 &&& 31)) &&& 1)), h4)
          else
            mm_run p_Md_row mm_fu 73 [.ref t, .int v1, .int 0, .int 0] [] h4
    else
      some (some (.int (-1)), h1) := (mm_ga_is rfl).trans ((mm_gd_is hb).trans (e_Md_row_0 mm_fu t v1 v2 h))
set_option maxRecDepth 100000 in
theorem e_Md_row_73 (f : Nat) (t : Nat) (v1 : Int32) (v3 : Int32) (v4 : Int32) (h : mm_H) : mm_run p_Md_row (f + 1) 73 [.ref t, .int v1, .int v3, .int v4] [] h =
  mm_ci (f_Md_indexes [.ref t] h) fun x2 h1 =>
  if v4 < x2 then
    mm_run p_Md_row f 85 [.ref t, .int v1, .int v3, .int v4, .int 0] [] h1
  else
    some (some (.int v3), h1) := rfl
set_option maxRecDepth 100000 in
theorem e_Md_row_85 (f : Nat) (t : Nat) (v1 : Int32) (v3 : Int32) (v4 : Int32) (v5 : Int32) (h : mm_H) : mm_run p_Md_row (f + 1) 85 [.ref t, .int v1, .int v3, .int v4, .int v5] [] h =
  mm_ci (f_Md_entries [.ref t, .int 0, .int v4] h) fun x2 h1 =>
  if v5 < x2 then
    mm_ci (f_Md_rowAt [.ref t, .int 0, .int v4, .int v5] h1) fun x4 h3 =>
    if x4 = v1 then
      mm_run p_Md_row f 85 [.ref t, .int v1, .int (v3 ||| (1 <<< (v4 &&& 31))), .int v4, .int (v5 + 1)] [] h3
    else
      mm_run p_Md_row f 85 [.ref t, .int v1, .int (v3 ||| 0), .int v4, .int (v5 + 1)] [] h3
  else
    mm_run p_Md_row f 73 [.ref t, .int v1, .int v3, .int (v4 + 1)] [] h1 := rfl
set_option maxRecDepth 100000 in
theorem i_Md_row (l : Launch) : mm_Imp l yX12_row cX12_row 6 (some .int) 4 f_Md_row := mm_imp l (P := p_Md_row) mm_cls_ok mm_sys_ok (by decide) (mm_Pok_of (List.forall_mem_cons.mpr ⟨k_X12_1, (List.forall_mem_cons.mpr ⟨k_X12_123, (fun _ h => absurd h List.not_mem_nil)⟩)⟩) (List.forall_mem_cons.mpr ⟨v_Md_indexes l q_1741 (by decide), (List.forall_mem_cons.mpr ⟨v_Md_within l (Or.inl q_1769) (by decide), (List.forall_mem_cons.mpr ⟨v_Md_valueOf l q_1761 (by decide), (List.forall_mem_cons.mpr ⟨v_Md_entries l q_1807 (by decide), (List.forall_mem_cons.mpr ⟨v_Md_rowAt l q_2170 (by decide), (fun _ h => absurd h List.not_mem_nil)⟩)⟩)⟩)⟩)⟩) (fun _ h => absurd h List.not_mem_nil) (fun _ h => absurd h List.not_mem_nil)) (by decide +kernel) rfl (cats := [1, 1, 1]) (fun as h r e => ⟨(mm_ga_inv e).1, (mm_gd_inv (mm_ga_inv e).2).1⟩) rfl (by decide)
theorem v_Md_row (l : Launch) {own : String} {i n0 : Nat} (hl : Cond.methodLink own i yX12_row ∈ mm_tbl) (hn : 5 ≤ n0) : mm_cok l own n0 i (0, 2, 1, f_Md_row) := Or.inr (Or.inr ⟨rfl, yX12_row, cX12_row, 6, (some .int), 4, 12, TX12, 27, i_Md_row l, hn, by decide, by decide +kernel, rfl, fun _ _ _ e => (mm_gd_inv (mm_ga_inv e).2).2, hl, q_2302, q_2303, q_179, q_2304⟩)
def p_Md_index : mm_P := ([(0, .aload_n 0, 1, 0), (1, .iconst 0, 1, 0), (2, .putfield 1, 3, 0), (5, .aload_n 0, 1, 0), (6, .iload_n 1, 1, 0), (7, .invokevirtual 484, 3, 0), (10, .ifCond .ne 5, 3, 0), (13, .iconst (-1), 1, (-1)), (14, .ireturn, 1, 0), (15, .iload_n 2, 1, 0), (16, .tableswitch 69 0 4 #[36, 42, 48, 55, 62], 36, 0), (52, .aload_n 0, 1, 0), (53, .iload_n 1, 1, 0), (54, .invokevirtual 299, 3, 0), (57, .ireturn, 1, 0), (58, .aload_n 0, 1, 0), (59, .iload_n 1, 1, 0), (60, .invokevirtual 411, 3, 0), (63, .ireturn, 1, 0), (64, .aload_n 0, 1, 0), (65, .iconst 0, 1, 0), (66, .iload_n 1, 1, 0), (67, .invokevirtual 311, 3, 0), (70, .ireturn, 1, 0), (71, .aload_n 0, 1, 0), (72, .iconst 0, 1, 0), (73, .iload_n 1, 1, 0), (74, .invokevirtual 317, 3, 0), (77, .ireturn, 1, 0), (78, .aload_n 0, 1, 0), (79, .iconst 0, 1, 0), (80, .iload_n 1, 1, 0), (81, .invokevirtual 329, 3, 0), (84, .ireturn, 1, 0), (85, .iconst (-1), 1, (-1)), (86, .ireturn, 1, 0)], [(1, 12, 0, 0)], [(299, 0, 1, 1, f_Md_kindOf), (311, 0, 2, 1, f_Md_entries), (317, 0, 2, 1, f_Md_leaves), (329, 0, 2, 1, f_Md_height), (411, 0, 1, 1, f_Md_columnAt), (484, 0, 1, 1, f_Md_isIndex)], [], [], [(0, [0, 1, 2])], [(16, [(0, 52), (1, 58), (2, 64), (3, 71), (4, 78)], 85)], 2)
def f_Md_index : mm_F := fun args h => mm_ga [1, 1, 1] args (mm_gd 12 args h (mm_run p_Md_index (mm_fu + 1) 0 args [] h))
set_option maxRecDepth 100000 in
theorem e_Md_index_0 (f : Nat) (t : Nat) (v1 : Int32) (v2 : Int32) (h : mm_H) : mm_run p_Md_index (f + 1) 0 [.ref t, .int v1, .int v2] [] h =
  (mm_pf 12 0 (.int 0) h t).bind fun h1 =>
  mm_ci (f_Md_isIndex [.ref t, .int v1] h1) fun x3 h2 =>
  if x3 = 0 then
    some (some (.int (-1)), h2)
  else
    if v2 = 0 then
      mm_ci (f_Md_kindOf [.ref t, .int v1] h2) fun x5 h4 =>
      some (some (.int x5), h4)
    else if v2 = 1 then
      mm_ci (f_Md_columnAt [.ref t, .int v1] h2) fun x7 h6 =>
      some (some (.int x7), h6)
    else if v2 = 2 then
      mm_ci (f_Md_entries [.ref t, .int 0, .int v1] h2) fun x9 h8 =>
      some (some (.int x9), h8)
    else if v2 = 3 then
      mm_ci (f_Md_leaves [.ref t, .int 0, .int v1] h2) fun x11 h10 =>
      some (some (.int x11), h10)
    else if v2 = 4 then
      mm_ci (f_Md_height [.ref t, .int 0, .int v1] h2) fun x13 h12 =>
      some (some (.int x13), h12)
    else 
      some (some (.int (-1)), h2) := rfl
theorem e_Md_index (t : Nat) (v1 : Int32) (v2 : Int32) (h : mm_H) {fs : List Value} (hb : h t = some (.inr (12, fs))) : f_Md_index [.ref t, .int v1, .int v2] h =
  (mm_pf 12 0 (.int 0) h t).bind fun h1 =>
  mm_ci (f_Md_isIndex [.ref t, .int v1] h1) fun x3 h2 =>
  if x3 = 0 then
    some (some (.int (-1)), h2)
  else
    if v2 = 0 then
      mm_ci (f_Md_kindOf [.ref t, .int v1] h2) fun x5 h4 =>
      some (some (.int x5), h4)
    else if v2 = 1 then
      mm_ci (f_Md_columnAt [.ref t, .int v1] h2) fun x7 h6 =>
      some (some (.int x7), h6)
    else if v2 = 2 then
      mm_ci (f_Md_entries [.ref t, .int 0, .int v1] h2) fun x9 h8 =>
      some (some (.int x9), h8)
    else if v2 = 3 then
      mm_ci (f_Md_leaves [.ref t, .int 0, .int v1] h2) fun x11 h10 =>
      some (some (.int x11), h10)
    else if v2 = 4 then
      mm_ci (f_Md_height [.ref t, .int 0, .int v1] h2) fun x13 h12 =>
      some (some (.int x13), h12)
    else 
      some (some (.int (-1)), h2) := (mm_ga_is rfl).trans ((mm_gd_is hb).trans (e_Md_index_0 mm_fu t v1 v2 h))
set_option maxRecDepth 100000 in
theorem i_Md_index (l : Launch) : mm_Imp l yX12_index cX12_index 3 (some .int) 5 f_Md_index := mm_imp l (P := p_Md_index) mm_cls_ok mm_sys_ok (by decide) (mm_Pok_of (List.forall_mem_cons.mpr ⟨k_X12_1, (fun _ h => absurd h List.not_mem_nil)⟩) (List.forall_mem_cons.mpr ⟨v_Md_kindOf l q_1749 (by decide), (List.forall_mem_cons.mpr ⟨v_Md_entries l q_1807 (by decide), (List.forall_mem_cons.mpr ⟨v_Md_leaves l q_1803 (by decide), (List.forall_mem_cons.mpr ⟨v_Md_height l q_1799 (by decide), (List.forall_mem_cons.mpr ⟨v_Md_columnAt l q_1787 (by decide), (List.forall_mem_cons.mpr ⟨v_Md_isIndex l q_2166 (by decide), (fun _ h => absurd h List.not_mem_nil)⟩)⟩)⟩)⟩)⟩)⟩) (fun _ h => absurd h List.not_mem_nil) (fun _ h => absurd h List.not_mem_nil)) (by decide +kernel) rfl (cats := [1, 1, 1]) (fun as h r e => ⟨(mm_ga_inv e).1, (mm_gd_inv (mm_ga_inv e).2).1⟩) rfl (by decide)
theorem v_Md_index (l : Launch) {own : String} {i n0 : Nat} (hl : Cond.methodLink own i yX12_index ∈ mm_tbl) (hn : 6 ≤ n0) : mm_cok l own n0 i (0, 2, 1, f_Md_index) := Or.inr (Or.inr ⟨rfl, yX12_index, cX12_index, 3, (some .int), 5, 12, TX12, 27, i_Md_index l, hn, by decide, by decide +kernel, rfl, fun _ _ _ e => (mm_gd_inv (mm_ga_inv e).2).2, hl, q_2306, q_2307, q_179, q_2308⟩)
def p_Md_leafStart : mm_P := ([(0, .iconst (-1), 1, (-1)), (1, .istore 4, 2, 0), (3, .iconst 0, 1, 0), (4, .istore 5, 2, 0), (6, .iload 5, 2, 0), (8, .aload_n 0, 1, 0), (9, .iload_n 1, 1, 0), (10, .iload_n 2, 1, 0), (11, .invokevirtual 311, 3, 0), (14, .if_icmp .ge 47, 3, 0), (17, .iload 4, 2, 0), (19, .aload_n 0, 1, 0), (20, .iload_n 1, 1, 0), (21, .iload_n 2, 1, 0), (22, .iload 5, 2, 0), (24, .invokevirtual 314, 3, 0), (27, .ifCond .eq 7, 3, 0), (30, .iconst 1, 1, 1), (31, .goto 4, 3, 0), (34, .iconst 0, 1, 0), (35, .iadd, 1, 0), (36, .istore 4, 2, 0), (38, .iload 4, 2, 0), (40, .iload_n 3, 1, 0), (41, .if_icmp .ne 14, 3, 0), (44, .iload_n 3, 1, 0), (45, .ifCond .ge 7, 3, 0), (48, .iconst (-1), 1, (-1)), (49, .goto 5, 3, 0), (52, .iload 5, 2, 0), (54, .ireturn, 1, 0), (55, .iinc 5 1, 3, 1), (58, .goto (-52), 3, 0), (61, .iconst (-1), 1, (-1)), (62, .ireturn, 1, 0)], [], [(311, 0, 2, 1, f_Md_entries), (314, 0, 3, 1, f_Md_isFirst)], [], [], [(0, [0, 1, 2, 3]), (6, [0, 1, 2, 3, 4, 5])], [], 2)
def f_Md_leafStart : mm_F := fun args h => mm_ga [1, 1, 1, 1] args (mm_gd 12 args h (mm_run p_Md_leafStart (mm_fu + 1) 0 args [] h))
set_option maxRecDepth 100000 in
theorem e_Md_leafStart_0 (f : Nat) (t : Nat) (v1 : Int32) (v2 : Int32) (v3 : Int32) (h : mm_H) : mm_run p_Md_leafStart (f + 1) 0 [.ref t, .int v1, .int v2, .int v3] [] h =
  mm_run p_Md_leafStart f 6 [.ref t, .int v1, .int v2, .int v3, .int (-1), .int 0] [] h := rfl
theorem e_Md_leafStart (t : Nat) (v1 : Int32) (v2 : Int32) (v3 : Int32) (h : mm_H) {fs : List Value} (hb : h t = some (.inr (12, fs))) : f_Md_leafStart [.ref t, .int v1, .int v2, .int v3] h =
  mm_run p_Md_leafStart mm_fu 6 [.ref t, .int v1, .int v2, .int v3, .int (-1), .int 0] [] h := (mm_ga_is rfl).trans ((mm_gd_is hb).trans (e_Md_leafStart_0 mm_fu t v1 v2 v3 h))
set_option maxRecDepth 100000 in
theorem e_Md_leafStart_6 (f : Nat) (t : Nat) (v1 : Int32) (v2 : Int32) (v3 : Int32) (v4 : Int32) (v5 : Int32) (h : mm_H) : mm_run p_Md_leafStart (f + 1) 6 [.ref t, .int v1, .int v2, .int v3, .int v4, .int v5] [] h =
  mm_ci (f_Md_entries [.ref t, .int v1, .int v2] h) fun x2 h1 =>
  if v5 < x2 then
    mm_ci (f_Md_isFirst [.ref t, .int v1, .int v2, .int v5] h1) fun x4 h3 =>
    if x4 = 0 then
      if (v4 + 0) = v3 then
        if v3 < 0 then
          some (some (.int (-1)), h3)
        else
          some (some (.int v5), h3)
      else
        mm_run p_Md_leafStart f 6 [.ref t, .int v1, .int v2, .int v3, .int (v4 + 0), .int (v5 + 1)] [] h3
    else
      if (v4 + 1) = v3 then
        if v3 < 0 then
          some (some (.int (-1)), h3)
        else
          some (some (.int v5), h3)
      else
        mm_run p_Md_leafStart f 6 [.ref t, .int v1, .int v2, .int v3, .int (v4 + 1), .int (v5 + 1)] [] h3
  else
    some (some (.int (-1)), h1) := rfl
set_option maxRecDepth 100000 in
theorem i_Md_leafStart (l : Launch) : mm_Imp l yX12_leafStart cX12_leafStart 6 (some .int) 3 f_Md_leafStart := mm_imp l (P := p_Md_leafStart) mm_cls_ok mm_sys_ok (by decide) (mm_Pok_of (fun _ h => absurd h List.not_mem_nil) (List.forall_mem_cons.mpr ⟨v_Md_entries l q_1807 (by decide), (List.forall_mem_cons.mpr ⟨v_Md_isFirst l q_1815 (by decide), (fun _ h => absurd h List.not_mem_nil)⟩)⟩) (fun _ h => absurd h List.not_mem_nil) (fun _ h => absurd h List.not_mem_nil)) (by decide +kernel) rfl (cats := [1, 1, 1, 1]) (fun as h r e => ⟨(mm_ga_inv e).1, (mm_gd_inv (mm_ga_inv e).2).1⟩) rfl (by decide)
theorem v_Md_leafStart (l : Launch) {own : String} {i n0 : Nat} (hl : Cond.methodLink own i yX12_leafStart ∈ mm_tbl) (hn : 4 ≤ n0) : mm_cok l own n0 i (0, 3, 1, f_Md_leafStart) := Or.inr (Or.inr ⟨rfl, yX12_leafStart, cX12_leafStart, 6, (some .int), 3, 12, TX12, 27, i_Md_leafStart l, hn, by decide, by decide +kernel, rfl, fun _ _ _ e => (mm_gd_inv (mm_ga_inv e).2).2, hl, q_2315, q_148, q_179, q_2316⟩)
def p_Md_leaf : mm_P := ([(0, .aload_n 0, 1, 0), (1, .iconst 0, 1, 0), (2, .putfield 1, 3, 0), (5, .aload_n 0, 1, 0), (6, .iload_n 1, 1, 0), (7, .invokevirtual 484, 3, 0), (10, .ifCond .eq 17, 3, 0), (13, .iload_n 2, 1, 0), (14, .ifCond .lt 13, 3, 0), (17, .aload_n 0, 1, 0), (18, .iconst 0, 1, 0), (19, .iload_n 1, 1, 0), (20, .iload_n 2, 1, 0), (21, .invokevirtual 517, 3, 0), (24, .goto 4, 3, 0), (27, .iconst (-1), 1, (-1)), (28, .istore 4, 2, 0), (30, .iload 4, 2, 0), (32, .ifCond .ge 5, 3, 0), (35, .iconst (-1), 1, (-1)), (36, .ireturn, 1, 0), (37, .aload_n 0, 1, 0), (38, .iconst 0, 1, 0), (39, .iload_n 1, 1, 0), (40, .iload 4, 2, 0), (42, .invokevirtual 335, 3, 0), (45, .iload_n 3, 1, 0), (46, .ifCond .lt 29, 3, 0), (49, .iload_n 3, 1, 0), (50, .aload_n 0, 1, 0), (51, .getfield 326, 3, 0), (54, .aload_n 0, 1, 0), (55, .getfield 323, 3, 0), (58, .isub, 1, 0), (59, .if_icmp .ge 16, 3, 0), (62, .aload_n 0, 1, 0), (63, .iconst 0, 1, 0), (64, .iload_n 1, 1, 0), (65, .iload 4, 2, 0), (67, .iload_n 3, 1, 0), (68, .iadd, 1, 0), (69, .invokevirtual 344, 3, 0), (72, .goto 4, 3, 0), (75, .iconst (-1), 1, (-1)), (76, .ireturn, 1, 0)], [(1, 12, 0, 0), (323, 12, 20, 0), (326, 12, 21, 0)], [(335, 0, 3, 0, f_Md_leafAround), (344, 0, 3, 1, f_Md_rowAt), (484, 0, 1, 1, f_Md_isIndex), (517, 0, 3, 1, f_Md_leafStart)], [], [], [(0, [0, 1, 2, 3])], [], 2)
def f_Md_leaf : mm_F := fun args h => mm_ga [1, 1, 1, 1] args (mm_gd 12 args h (mm_run p_Md_leaf (mm_fu + 1) 0 args [] h))
set_option maxRecDepth 100000 in
theorem e_Md_leaf_0 (f : Nat) (t : Nat) (v1 : Int32) (v2 : Int32) (v3 : Int32) (h : mm_H) : mm_run p_Md_leaf (f + 1) 0 [.ref t, .int v1, .int v2, .int v3] [] h =
  (mm_pf 12 0 (.int 0) h t).bind fun h1 =>
  mm_ci (f_Md_isIndex [.ref t, .int v1] h1) fun x3 h2 =>
  if x3 = 0 then
    some (some (.int (-1)), h2)
  else
    if v2 < 0 then
      some (some (.int (-1)), h2)
    else
      mm_ci (f_Md_leafStart [.ref t, .int 0, .int v1, .int v2] h2) fun x5 h4 =>
      if x5 < 0 then
        some (some (.int (-1)), h4)
      else
        mm_cv (f_Md_leafAround [.ref t, .int 0, .int v1, .int x5] h4) fun h6 =>
        if v3 < 0 then
          some (some (.int (-1)), h6)
        else
          (mm_gi 12 21 h6 t).bind fun x7 =>
          (mm_gi 12 20 h6 t).bind fun x8 =>
          if v3 < (x7 - x8) then
            mm_ci (f_Md_rowAt [.ref t, .int 0, .int v1, .int (x5 + v3)] h6) fun x10 h9 =>
            some (some (.int x10), h9)
          else
            some (some (.int (-1)), h6) := rfl
theorem e_Md_leaf (t : Nat) (v1 : Int32) (v2 : Int32) (v3 : Int32) (h : mm_H) {fs : List Value} (hb : h t = some (.inr (12, fs))) : f_Md_leaf [.ref t, .int v1, .int v2, .int v3] h =
  (mm_pf 12 0 (.int 0) h t).bind fun h1 =>
  mm_ci (f_Md_isIndex [.ref t, .int v1] h1) fun x3 h2 =>
  if x3 = 0 then
    some (some (.int (-1)), h2)
  else
    if v2 < 0 then
      some (some (.int (-1)), h2)
    else
      mm_ci (f_Md_leafStart [.ref t, .int 0, .int v1, .int v2] h2) fun x5 h4 =>
      if x5 < 0 then
        some (some (.int (-1)), h4)
      else
        mm_cv (f_Md_leafAround [.ref t, .int 0, .int v1, .int x5] h4) fun h6 =>
        if v3 < 0 then
          some (some (.int (-1)), h6)
        else
          (mm_gi 12 21 h6 t).bind fun x7 =>
          (mm_gi 12 20 h6 t).bind fun x8 =>
          if v3 < (x7 - x8) then
            mm_ci (f_Md_rowAt [.ref t, .int 0, .int v1, .int (x5 + v3)] h6) fun x10 h9 =>
            some (some (.int x10), h9)
          else
            some (some (.int (-1)), h6) := (mm_ga_is rfl).trans ((mm_gd_is hb).trans (e_Md_leaf_0 mm_fu t v1 v2 v3 h))
set_option maxRecDepth 100000 in
theorem i_Md_leaf (l : Launch) : mm_Imp l yX12_leaf cX12_leaf 5 (some .int) 4 f_Md_leaf := mm_imp l (P := p_Md_leaf) mm_cls_ok mm_sys_ok (by decide) (mm_Pok_of (List.forall_mem_cons.mpr ⟨k_X12_1, (List.forall_mem_cons.mpr ⟨k_X12_323, (List.forall_mem_cons.mpr ⟨k_X12_326, (fun _ h => absurd h List.not_mem_nil)⟩)⟩)⟩) (List.forall_mem_cons.mpr ⟨v_Md_leafAround l q_1831 (by decide), (List.forall_mem_cons.mpr ⟨v_Md_rowAt l q_2170 (by decide), (List.forall_mem_cons.mpr ⟨v_Md_isIndex l q_2166 (by decide), (List.forall_mem_cons.mpr ⟨v_Md_leafStart l q_2313 (by decide), (fun _ h => absurd h List.not_mem_nil)⟩)⟩)⟩)⟩) (fun _ h => absurd h List.not_mem_nil) (fun _ h => absurd h List.not_mem_nil)) (by decide +kernel) rfl (cats := [1, 1, 1, 1]) (fun as h r e => ⟨(mm_ga_inv e).1, (mm_gd_inv (mm_ga_inv e).2).1⟩) rfl (by decide)
theorem v_Md_leaf (l : Launch) {own : String} {i n0 : Nat} (hl : Cond.methodLink own i yX12_leaf ∈ mm_tbl) (hn : 5 ≤ n0) : mm_cok l own n0 i (0, 3, 1, f_Md_leaf) := Or.inr (Or.inr ⟨rfl, yX12_leaf, cX12_leaf, 5, (some .int), 4, 12, TX12, 27, i_Md_leaf l, hn, by decide, by decide +kernel, rfl, fun _ _ _ e => (mm_gd_inv (mm_ga_inv e).2).2, hl, q_2310, q_2311, q_179, q_2312⟩)
def p_Md_lefts : mm_P := ([(0, .aload_n 0, 1, 0), (1, .iconst 0, 1, 0), (2, .putfield 1, 3, 0), (5, .aload_n 0, 1, 0), (6, .iload_n 1, 1, 0), (7, .invokevirtual 484, 3, 0), (10, .ifCond .eq 17, 3, 0), (13, .iload_n 2, 1, 0), (14, .ifCond .lt 13, 3, 0), (17, .aload_n 0, 1, 0), (18, .iconst 0, 1, 0), (19, .iload_n 1, 1, 0), (20, .iload_n 2, 1, 0), (21, .invokevirtual 517, 3, 0), (24, .goto 4, 3, 0), (27, .iconst (-1), 1, (-1)), (28, .istore_n 3, 1, 0), (29, .iload_n 3, 1, 0), (30, .ifCond .ge 5, 3, 0), (33, .iconst (-1), 1, (-1)), (34, .ireturn, 1, 0), (35, .aload_n 0, 1, 0), (36, .iconst 0, 1, 0), (37, .iload_n 1, 1, 0), (38, .iload_n 3, 1, 0), (39, .invokevirtual 335, 3, 0), (42, .aload_n 0, 1, 0), (43, .iconst 0, 1, 0), (44, .invokevirtual 356, 3, 0), (47, .istore 4, 2, 0), (49, .iconst 0, 1, 0), (50, .istore 5, 2, 0), (52, .aload_n 0, 1, 0), (53, .getfield 323, 3, 0), (56, .istore 6, 2, 0), (58, .iload 6, 2, 0), (60, .aload_n 0, 1, 0), (61, .getfield 326, 3, 0), (64, .if_icmp .ge 35, 3, 0), (67, .iload 5, 2, 0), (69, .iload 4, 2, 0), (71, .aload_n 0, 1, 0), (72, .iconst 0, 1, 0), (73, .iload_n 1, 1, 0), (74, .iload 6, 2, 0), (76, .invokevirtual 344, 3, 0), (79, .invokestatic 282, 3, 0), (82, .ifCond .eq 7, 3, 0), (85, .iconst 1, 1, 1), (86, .goto 4, 3, 0), (89, .iconst 0, 1, 0), (90, .iadd, 1, 0), (91, .istore 5, 2, 0), (93, .iinc 6 1, 3, 1), (96, .goto (-38), 3, 0), (99, .iload 5, 2, 0), (101, .ireturn, 1, 0)], [(1, 12, 0, 0), (323, 12, 20, 0), (326, 12, 21, 0)], [(282, 1, 2, 1, f_Md_has), (335, 0, 3, 0, f_Md_leafAround), (344, 0, 3, 1, f_Md_rowAt), (356, 0, 1, 1, f_Md_chosenBy), (484, 0, 1, 1, f_Md_isIndex), (517, 0, 3, 1, f_Md_leafStart)], [], [], [(0, [0, 1, 2]), (58, [0, 1, 4, 5, 6])], [], 2)
def f_Md_lefts : mm_F := fun args h => mm_ga [1, 1, 1] args (mm_gd 12 args h (mm_run p_Md_lefts (mm_fu + 1) 0 args [] h))
set_option maxRecDepth 100000 in
theorem e_Md_lefts_0 (f : Nat) (t : Nat) (v1 : Int32) (v2 : Int32) (h : mm_H) : mm_run p_Md_lefts (f + 1) 0 [.ref t, .int v1, .int v2] [] h =
  (mm_pf 12 0 (.int 0) h t).bind fun h1 =>
  mm_ci (f_Md_isIndex [.ref t, .int v1] h1) fun x3 h2 =>
  if x3 = 0 then
    some (some (.int (-1)), h2)
  else
    if v2 < 0 then
      some (some (.int (-1)), h2)
    else
      mm_ci (f_Md_leafStart [.ref t, .int 0, .int v1, .int v2] h2) fun x5 h4 =>
      if x5 < 0 then
        some (some (.int (-1)), h4)
      else
        mm_cv (f_Md_leafAround [.ref t, .int 0, .int v1, .int x5] h4) fun h6 =>
        mm_ci (f_Md_chosenBy [.ref t, .int 0] h6) fun x8 h7 =>
        (mm_gi 12 20 h7 t).bind fun x9 =>
        mm_run p_Md_lefts f 58 [.ref t, .int v1, .int x8, .int 0, .int x9] [] h7 := rfl
theorem e_Md_lefts (t : Nat) (v1 : Int32) (v2 : Int32) (h : mm_H) {fs : List Value} (hb : h t = some (.inr (12, fs))) : f_Md_lefts [.ref t, .int v1, .int v2] h =
  (mm_pf 12 0 (.int 0) h t).bind fun h1 =>
  mm_ci (f_Md_isIndex [.ref t, .int v1] h1) fun x3 h2 =>
  if x3 = 0 then
    some (some (.int (-1)), h2)
  else
    if v2 < 0 then
      some (some (.int (-1)), h2)
    else
      mm_ci (f_Md_leafStart [.ref t, .int 0, .int v1, .int v2] h2) fun x5 h4 =>
      if x5 < 0 then
        some (some (.int (-1)), h4)
      else
        mm_cv (f_Md_leafAround [.ref t, .int 0, .int v1, .int x5] h4) fun h6 =>
        mm_ci (f_Md_chosenBy [.ref t, .int 0] h6) fun x8 h7 =>
        (mm_gi 12 20 h7 t).bind fun x9 =>
        mm_run p_Md_lefts mm_fu 58 [.ref t, .int v1, .int x8, .int 0, .int x9] [] h7 := (mm_ga_is rfl).trans ((mm_gd_is hb).trans (e_Md_lefts_0 mm_fu t v1 v2 h))
set_option maxRecDepth 100000 in
theorem e_Md_lefts_58 (f : Nat) (t : Nat) (v1 : Int32) (v4 : Int32) (v5 : Int32) (v6 : Int32) (h : mm_H) : mm_run p_Md_lefts (f + 1) 58 [.ref t, .int v1, .int v4, .int v5, .int v6] [] h =
  (mm_gi 12 21 h t).bind fun x1 =>
  if v6 < x1 then
    mm_ci (f_Md_rowAt [.ref t, .int 0, .int v1, .int v6] h) fun x3 h2 =>
    mm_ci (f_Md_has [.int v4, .int x3] h2) fun x5 h4 =>
    if x5 = 0 then
      mm_run p_Md_lefts f 58 [.ref t, .int v1, .int v4, .int (v5 + 0), .int (v6 + 1)] [] h4
    else
      mm_run p_Md_lefts f 58 [.ref t, .int v1, .int v4, .int (v5 + 1), .int (v6 + 1)] [] h4
  else
    some (some (.int v5), h) := rfl
set_option maxRecDepth 100000 in
theorem i_Md_lefts (l : Launch) : mm_Imp l yX12_lefts cX12_lefts 7 (some .int) 8 f_Md_lefts := mm_imp l (P := p_Md_lefts) mm_cls_ok mm_sys_ok (by decide) (mm_Pok_of (List.forall_mem_cons.mpr ⟨k_X12_1, (List.forall_mem_cons.mpr ⟨k_X12_323, (List.forall_mem_cons.mpr ⟨k_X12_326, (fun _ h => absurd h List.not_mem_nil)⟩)⟩)⟩) (List.forall_mem_cons.mpr ⟨v_Md_has l (Or.inl q_1780) (by decide), (List.forall_mem_cons.mpr ⟨v_Md_leafAround l q_1831 (by decide), (List.forall_mem_cons.mpr ⟨v_Md_rowAt l q_2170 (by decide), (List.forall_mem_cons.mpr ⟨v_Md_chosenBy l q_2237 (by decide), (List.forall_mem_cons.mpr ⟨v_Md_isIndex l q_2166 (by decide), (List.forall_mem_cons.mpr ⟨v_Md_leafStart l q_2313 (by decide), (fun _ h => absurd h List.not_mem_nil)⟩)⟩)⟩)⟩)⟩)⟩) (fun _ h => absurd h List.not_mem_nil) (fun _ h => absurd h List.not_mem_nil)) (by decide +kernel) rfl (cats := [1, 1, 1]) (fun as h r e => ⟨(mm_ga_inv e).1, (mm_gd_inv (mm_ga_inv e).2).1⟩) rfl (by decide)
theorem v_Md_lefts (l : Launch) {own : String} {i n0 : Nat} (hl : Cond.methodLink own i yX12_lefts ∈ mm_tbl) (hn : 9 ≤ n0) : mm_cok l own n0 i (0, 2, 1, f_Md_lefts) := Or.inr (Or.inr ⟨rfl, yX12_lefts, cX12_lefts, 7, (some .int), 8, 12, TX12, 27, i_Md_lefts l, hn, by decide, by decide +kernel, rfl, fun _ _ _ e => (mm_gd_inv (mm_ga_inv e).2).2, hl, q_2318, q_2319, q_179, q_2320⟩)
def p_Md_pointer : mm_P := ([(0, .aload_n 0, 1, 0), (1, .iconst 0, 1, 0), (2, .putfield 1, 3, 0), (5, .aload_n 0, 1, 0), (6, .iload_n 1, 1, 0), (7, .invokevirtual 481, 3, 0), (10, .ifCond .eq 12, 3, 0), (13, .iload_n 2, 1, 0), (14, .iconst 0, 1, 0), (15, .iconst 1, 1, 1), (16, .invokestatic 275, 3, 0), (19, .ifCond .ne 6, 3, 0), (22, .bipush (-3), 2, (-3)), (24, .ireturn, 1, 0), (25, .aload_n 0, 1, 0), (26, .getfield 123, 3, 0), (29, .iload_n 2, 1, 0), (30, .ifCond .ne 10, 3, 0), (33, .bipush 43, 2, 43), (35, .iload_n 1, 1, 0), (36, .iadd, 1, 0), (37, .goto 7, 3, 0), (40, .bipush 55, 2, 55), (42, .iload_n 1, 1, 0), (43, .iadd, 1, 0), (44, .iaload, 1, 0), (45, .ireturn, 1, 0)], [(1, 12, 0, 0), (123, 12, 14, 4)], [(275, 1, 3, 1, f_Md_within), (481, 0, 1, 1, f_Md_isPointer)], [], [], [(0, [0, 1, 2])], [], 2)
def f_Md_pointer : mm_F := fun args h => mm_ga [1, 1, 1] args (mm_gd 12 args h (mm_run p_Md_pointer (mm_fu + 1) 0 args [] h))
set_option maxRecDepth 100000 in
theorem e_Md_pointer_0 (f : Nat) (t : Nat) (v1 : Int32) (v2 : Int32) (h : mm_H) : mm_run p_Md_pointer (f + 1) 0 [.ref t, .int v1, .int v2] [] h =
  (mm_pf 12 0 (.int 0) h t).bind fun h1 =>
  mm_ci (f_Md_isPointer [.ref t, .int v1] h1) fun x3 h2 =>
  if x3 = 0 then
    some (some (.int (-3)), h2)
  else
    mm_ci (f_Md_within [.int v2, .int 0, .int 1] h2) fun x5 h4 =>
    if x5 = 0 then
      some (some (.int (-3)), h4)
    else
      (mm_gr 12 14 h4 t).bind fun r6 =>
      if v2 = 0 then
        (mm_li h4 r6 (43 + v1)).bind fun x7 =>
        some (some (.int x7), h4)
      else
        (mm_li h4 r6 (55 + v1)).bind fun x8 =>
        some (some (.int x8), h4) := rfl
theorem e_Md_pointer (t : Nat) (v1 : Int32) (v2 : Int32) (h : mm_H) {fs : List Value} (hb : h t = some (.inr (12, fs))) : f_Md_pointer [.ref t, .int v1, .int v2] h =
  (mm_pf 12 0 (.int 0) h t).bind fun h1 =>
  mm_ci (f_Md_isPointer [.ref t, .int v1] h1) fun x3 h2 =>
  if x3 = 0 then
    some (some (.int (-3)), h2)
  else
    mm_ci (f_Md_within [.int v2, .int 0, .int 1] h2) fun x5 h4 =>
    if x5 = 0 then
      some (some (.int (-3)), h4)
    else
      (mm_gr 12 14 h4 t).bind fun r6 =>
      if v2 = 0 then
        (mm_li h4 r6 (43 + v1)).bind fun x7 =>
        some (some (.int x7), h4)
      else
        (mm_li h4 r6 (55 + v1)).bind fun x8 =>
        some (some (.int x8), h4) := (mm_ga_is rfl).trans ((mm_gd_is hb).trans (e_Md_pointer_0 mm_fu t v1 v2 h))
set_option maxRecDepth 100000 in
theorem i_Md_pointer (l : Launch) : mm_Imp l yX12_pointer cX12_pointer 3 (some .int) 2 f_Md_pointer := mm_imp l (P := p_Md_pointer) mm_cls_ok mm_sys_ok (by decide) (mm_Pok_of (List.forall_mem_cons.mpr ⟨k_X12_1, (List.forall_mem_cons.mpr ⟨k_X12_123, (fun _ h => absurd h List.not_mem_nil)⟩)⟩) (List.forall_mem_cons.mpr ⟨v_Md_within l (Or.inl q_1769) (by decide), (List.forall_mem_cons.mpr ⟨v_Md_isPointer l q_2154 (by decide), (fun _ h => absurd h List.not_mem_nil)⟩)⟩) (fun _ h => absurd h List.not_mem_nil) (fun _ h => absurd h List.not_mem_nil)) (by decide +kernel) rfl (cats := [1, 1, 1]) (fun as h r e => ⟨(mm_ga_inv e).1, (mm_gd_inv (mm_ga_inv e).2).1⟩) rfl (by decide)
theorem v_Md_pointer (l : Launch) {own : String} {i n0 : Nat} (hl : Cond.methodLink own i yX12_pointer ∈ mm_tbl) (hn : 3 ≤ n0) : mm_cok l own n0 i (0, 2, 1, f_Md_pointer) := Or.inr (Or.inr ⟨rfl, yX12_pointer, cX12_pointer, 3, (some .int), 2, 12, TX12, 27, i_Md_pointer l, hn, by decide, by decide +kernel, rfl, fun _ _ _ e => (mm_gd_inv (mm_ga_inv e).2).2, hl, q_2322, q_2323, q_179, q_2324⟩)
def p_Md_belongSet : mm_P := ([(0, .iconst 0, 1, 0), (1, .istore_n 2, 1, 0), (2, .iconst 0, 1, 0), (3, .istore_n 3, 1, 0), (4, .iload_n 3, 1, 0), (5, .aload_n 0, 1, 0), (6, .getfield 123, 3, 0), (9, .iconst 2, 1, 2), (10, .iaload, 1, 0), (11, .if_icmp .ge 29, 3, 0), (14, .iload_n 2, 1, 0), (15, .aload_n 0, 1, 0), (16, .iconst 0, 1, 0), (17, .iload_n 1, 1, 0), (18, .iload_n 3, 1, 0), (19, .invokevirtual 423, 3, 0), (22, .ifCond .eq 9, 3, 0), (25, .iconst 1, 1, 1), (26, .iload_n 3, 1, 0), (27, .ishl, 1, 0), (28, .goto 4, 3, 0), (31, .iconst 0, 1, 0), (32, .ior, 1, 0), (33, .istore_n 2, 1, 0), (34, .iinc 3 1, 3, 1), (37, .goto (-33), 3, 0), (40, .iload_n 2, 1, 0), (41, .ireturn, 1, 0)], [(123, 12, 14, 4)], [(423, 0, 3, 1, f_Md_belongs)], [], [], [(0, [0, 1]), (4, [0, 1, 2, 3])], [], 2)
def f_Md_belongSet : mm_F := fun args h => mm_ga [1, 1] args (mm_gd 12 args h (mm_run p_Md_belongSet (mm_fu + 1) 0 args [] h))
set_option maxRecDepth 100000 in
theorem e_Md_belongSet_0 (f : Nat) (t : Nat) (v1 : Int32) (h : mm_H) : mm_run p_Md_belongSet (f + 1) 0 [.ref t, .int v1] [] h =
  mm_run p_Md_belongSet f 4 [.ref t, .int v1, .int 0, .int 0] [] h := rfl
theorem e_Md_belongSet (t : Nat) (v1 : Int32) (h : mm_H) {fs : List Value} (hb : h t = some (.inr (12, fs))) : f_Md_belongSet [.ref t, .int v1] h =
  mm_run p_Md_belongSet mm_fu 4 [.ref t, .int v1, .int 0, .int 0] [] h := (mm_ga_is rfl).trans ((mm_gd_is hb).trans (e_Md_belongSet_0 mm_fu t v1 h))
set_option maxRecDepth 100000 in
theorem e_Md_belongSet_4 (f : Nat) (t : Nat) (v1 : Int32) (v2 : Int32) (v3 : Int32) (h : mm_H) : mm_run p_Md_belongSet (f + 1) 4 [.ref t, .int v1, .int v2, .int v3] [] h =
  (mm_gr 12 14 h t).bind fun r1 =>
  (mm_li h r1 2).bind fun x2 =>
  if v3 < x2 then
    mm_ci (f_Md_belongs [.ref t, .int 0, .int v1, .int v3] h) fun x4 h3 =>
    if x4 = 0 then
      mm_run p_Md_belongSet f 4 [.ref t, .int v1, .int (v2 ||| 0), .int (v3 + 1)] [] h3
    else
      mm_run p_Md_belongSet f 4 [.ref t, .int v1, .int (v2 ||| (1 <<< (v3 &&& 31))), .int (v3 + 1)] [] h3
  else
    some (some (.int v2), h) := rfl
set_option maxRecDepth 100000 in
theorem i_Md_belongSet (l : Launch) : mm_Imp l yX12_belongSet cX12_belongSet 4 (some .int) 7 f_Md_belongSet := mm_imp l (P := p_Md_belongSet) mm_cls_ok mm_sys_ok (by decide) (mm_Pok_of (List.forall_mem_cons.mpr ⟨k_X12_123, (fun _ h => absurd h List.not_mem_nil)⟩) (List.forall_mem_cons.mpr ⟨v_Md_belongs l q_1745 (by decide), (fun _ h => absurd h List.not_mem_nil)⟩) (fun _ h => absurd h List.not_mem_nil) (fun _ h => absurd h List.not_mem_nil)) (by decide +kernel) rfl (cats := [1, 1]) (fun as h r e => ⟨(mm_ga_inv e).1, (mm_gd_inv (mm_ga_inv e).2).1⟩) rfl (by decide)
theorem v_Md_belongSet (l : Launch) {own : String} {i n0 : Nat} (hl : Cond.methodLink own i yX12_belongSet ∈ mm_tbl) (hn : 8 ≤ n0) : mm_cok l own n0 i (0, 1, 1, f_Md_belongSet) := Or.inr (Or.inr ⟨rfl, yX12_belongSet, cX12_belongSet, 4, (some .int), 7, 12, TX12, 27, i_Md_belongSet l, hn, by decide, by decide +kernel, rfl, fun _ _ _ e => (mm_gd_inv (mm_ga_inv e).2).2, hl, q_2331, q_149, q_179, q_2332⟩)
def p_Md_found : mm_P := ([(0, .aload_n 0, 1, 0), (1, .iconst 0, 1, 0), (2, .putfield 1, 3, 0), (5, .aload_n 0, 1, 0), (6, .iload_n 1, 1, 0), (7, .invokevirtual 484, 3, 0), (10, .ifCond .ne 5, 3, 0), (13, .iconst (-1), 1, (-1)), (14, .ireturn, 1, 0), (15, .aload_n 0, 1, 0), (16, .iconst 0, 1, 0), (17, .aload_n 0, 1, 0), (18, .iconst 0, 1, 0), (19, .invokevirtual 279, 3, 0), (22, .aload_n 0, 1, 0), (23, .iload_n 1, 1, 0), (24, .invokevirtual 411, 3, 0), (27, .iload_n 2, 1, 0), (28, .invokevirtual 289, 3, 0), (31, .istore_n 3, 1, 0), (32, .iload_n 3, 1, 0), (33, .aload_n 0, 1, 0), (34, .iload_n 1, 1, 0), (35, .invokevirtual 520, 3, 0), (38, .iand, 1, 0), (39, .ireturn, 1, 0)], [(1, 12, 0, 0)], [(279, 0, 1, 1, f_Md_visible), (289, 0, 4, 1, f_Md_having), (411, 0, 1, 1, f_Md_columnAt), (484, 0, 1, 1, f_Md_isIndex), (520, 0, 1, 1, f_Md_belongSet)], [], [], [(0, [0, 1, 2])], [], 2)
def f_Md_found : mm_F := fun args h => mm_ga [1, 1, 1] args (mm_gd 12 args h (mm_run p_Md_found (mm_fu + 1) 0 args [] h))
set_option maxRecDepth 100000 in
theorem e_Md_found_0 (f : Nat) (t : Nat) (v1 : Int32) (v2 : Int32) (h : mm_H) : mm_run p_Md_found (f + 1) 0 [.ref t, .int v1, .int v2] [] h =
  (mm_pf 12 0 (.int 0) h t).bind fun h1 =>
  mm_ci (f_Md_isIndex [.ref t, .int v1] h1) fun x3 h2 =>
  if x3 = 0 then
    some (some (.int (-1)), h2)
  else
    mm_ci (f_Md_visible [.ref t, .int 0] h2) fun x5 h4 =>
    mm_ci (f_Md_columnAt [.ref t, .int v1] h4) fun x7 h6 =>
    mm_ci (f_Md_having [.ref t, .int 0, .int x5, .int x7, .int v2] h6) fun x9 h8 =>
    mm_ci (f_Md_belongSet [.ref t, .int v1] h8) fun x11 h10 =>
    some (some (.int (x9 &&& x11)), h10) := rfl
theorem e_Md_found (t : Nat) (v1 : Int32) (v2 : Int32) (h : mm_H) {fs : List Value} (hb : h t = some (.inr (12, fs))) : f_Md_found [.ref t, .int v1, .int v2] h =
  (mm_pf 12 0 (.int 0) h t).bind fun h1 =>
  mm_ci (f_Md_isIndex [.ref t, .int v1] h1) fun x3 h2 =>
  if x3 = 0 then
    some (some (.int (-1)), h2)
  else
    mm_ci (f_Md_visible [.ref t, .int 0] h2) fun x5 h4 =>
    mm_ci (f_Md_columnAt [.ref t, .int v1] h4) fun x7 h6 =>
    mm_ci (f_Md_having [.ref t, .int 0, .int x5, .int x7, .int v2] h6) fun x9 h8 =>
    mm_ci (f_Md_belongSet [.ref t, .int v1] h8) fun x11 h10 =>
    some (some (.int (x9 &&& x11)), h10) := (mm_ga_is rfl).trans ((mm_gd_is hb).trans (e_Md_found_0 mm_fu t v1 v2 h))
set_option maxRecDepth 100000 in
theorem i_Md_found (l : Launch) : mm_Imp l yX12_found cX12_found 4 (some .int) 8 f_Md_found := mm_imp l (P := p_Md_found) mm_cls_ok mm_sys_ok (by decide) (mm_Pok_of (List.forall_mem_cons.mpr ⟨k_X12_1, (fun _ h => absurd h List.not_mem_nil)⟩) (List.forall_mem_cons.mpr ⟨v_Md_visible l q_1772 (by decide), (List.forall_mem_cons.mpr ⟨v_Md_having l q_1776 (by decide), (List.forall_mem_cons.mpr ⟨v_Md_columnAt l q_1787 (by decide), (List.forall_mem_cons.mpr ⟨v_Md_isIndex l q_2166 (by decide), (List.forall_mem_cons.mpr ⟨v_Md_belongSet l q_2329 (by decide), (fun _ h => absurd h List.not_mem_nil)⟩)⟩)⟩)⟩)⟩) (fun _ h => absurd h List.not_mem_nil) (fun _ h => absurd h List.not_mem_nil)) (by decide +kernel) rfl (cats := [1, 1, 1]) (fun as h r e => ⟨(mm_ga_inv e).1, (mm_gd_inv (mm_ga_inv e).2).1⟩) rfl (by decide)
theorem v_Md_found (l : Launch) {own : String} {i n0 : Nat} (hl : Cond.methodLink own i yX12_found ∈ mm_tbl) (hn : 9 ≤ n0) : mm_cok l own n0 i (0, 2, 1, f_Md_found) := Or.inr (Or.inr ⟨rfl, yX12_found, cX12_found, 4, (some .int), 8, 12, TX12, 27, i_Md_found l, hn, by decide, by decide +kernel, rfl, fun _ _ _ e => (mm_gd_inv (mm_ga_inv e).2).2, hl, q_2326, q_2327, q_179, q_2328⟩)
def p_Md_open : mm_P := ([(0, .aload_n 0, 1, 0), (1, .iconst 0, 1, 0), (2, .putfield 1, 3, 0), (5, .aload_n 0, 1, 0), (6, .iload_n 1, 1, 0), (7, .invokevirtual 484, 3, 0), (10, .ifCond .ne 5, 3, 0), (13, .iconst 0, 1, 0), (14, .ireturn, 1, 0), (15, .aload_n 0, 1, 0), (16, .iload_n 1, 1, 0), (17, .putfield 452, 3, 0), (20, .aload_n 0, 1, 0), (21, .iload_n 2, 1, 0), (22, .putfield 523, 3, 0), (25, .aload_n 0, 1, 0), (26, .iconst (-1), 1, (-1)), (27, .putfield 526, 3, 0), (30, .iconst 1, 1, 1), (31, .ireturn, 1, 0)], [(1, 12, 0, 0), (452, 12, 17, 0), (523, 12, 18, 0), (526, 12, 19, 0)], [(484, 0, 1, 1, f_Md_isIndex)], [], [], [(0, [0, 1, 2])], [], 1)
def f_Md_open : mm_F := fun args h => mm_ga [1, 1, 1] args (mm_gd 12 args h (mm_run p_Md_open (mm_fu + 1) 0 args [] h))
set_option maxRecDepth 100000 in
theorem e_Md_open_0 (f : Nat) (t : Nat) (v1 : Int32) (v2 : Int32) (h : mm_H) : mm_run p_Md_open (f + 1) 0 [.ref t, .int v1, .int v2] [] h =
  (mm_pf 12 0 (.int 0) h t).bind fun h1 =>
  mm_ci (f_Md_isIndex [.ref t, .int v1] h1) fun x3 h2 =>
  if x3 = 0 then
    some (some (.int 0), h2)
  else
    (mm_pf 12 17 (.int v1) h2 t).bind fun h4 =>
    (mm_pf 12 18 (.int v2) h4 t).bind fun h5 =>
    (mm_pf 12 19 (.int (-1)) h5 t).bind fun h6 =>
    some (some (.int 1), h6) := rfl
theorem e_Md_open (t : Nat) (v1 : Int32) (v2 : Int32) (h : mm_H) {fs : List Value} (hb : h t = some (.inr (12, fs))) : f_Md_open [.ref t, .int v1, .int v2] h =
  (mm_pf 12 0 (.int 0) h t).bind fun h1 =>
  mm_ci (f_Md_isIndex [.ref t, .int v1] h1) fun x3 h2 =>
  if x3 = 0 then
    some (some (.int 0), h2)
  else
    (mm_pf 12 17 (.int v1) h2 t).bind fun h4 =>
    (mm_pf 12 18 (.int v2) h4 t).bind fun h5 =>
    (mm_pf 12 19 (.int (-1)) h5 t).bind fun h6 =>
    some (some (.int 1), h6) := (mm_ga_is rfl).trans ((mm_gd_is hb).trans (e_Md_open_0 mm_fu t v1 v2 h))
set_option maxRecDepth 100000 in
theorem i_Md_open (l : Launch) : mm_Imp l yX12_open cX12_open 3 (some .boolean) 3 f_Md_open := mm_imp l (P := p_Md_open) mm_cls_ok mm_sys_ok (by decide) (mm_Pok_of (List.forall_mem_cons.mpr ⟨k_X12_1, (List.forall_mem_cons.mpr ⟨k_X12_452, (List.forall_mem_cons.mpr ⟨k_X12_523, (List.forall_mem_cons.mpr ⟨k_X12_526, (fun _ h => absurd h List.not_mem_nil)⟩)⟩)⟩)⟩) (List.forall_mem_cons.mpr ⟨v_Md_isIndex l q_2166 (by decide), (fun _ h => absurd h List.not_mem_nil)⟩) (fun _ h => absurd h List.not_mem_nil) (fun _ h => absurd h List.not_mem_nil)) (by decide +kernel) rfl (cats := [1, 1, 1]) (fun as h r e => ⟨(mm_ga_inv e).1, (mm_gd_inv (mm_ga_inv e).2).1⟩) rfl (by decide)
theorem v_Md_open (l : Launch) {own : String} {i n0 : Nat} (hl : Cond.methodLink own i yX12_open ∈ mm_tbl) (hn : 4 ≤ n0) : mm_cok l own n0 i (0, 2, 1, f_Md_open) := Or.inr (Or.inr ⟨rfl, yX12_open, cX12_open, 3, (some .boolean), 3, 12, TX12, 27, i_Md_open l, hn, by decide, by decide +kernel, rfl, fun _ _ _ e => (mm_gd_inv (mm_ga_inv e).2).2, hl, q_2334, q_2335, q_179, q_2336⟩)
def p_Md_entryNow : mm_P := ([(0, .aload_n 0, 1, 0), (1, .iload_n 1, 1, 0), (2, .iload_n 2, 1, 0), (3, .aload_n 0, 1, 0), (4, .iconst 0, 1, 0), (5, .iload_n 2, 1, 0), (6, .aload_n 0, 1, 0), (7, .iload_n 1, 1, 0), (8, .invokevirtual 411, 3, 0), (11, .invokevirtual 286, 3, 0), (14, .invokevirtual 384, 3, 0), (17, .ireturn, 1, 0)], [], [(286, 0, 3, 1, f_Md_valueOf), (384, 0, 3, 1, f_Md_entryOf), (411, 0, 1, 1, f_Md_columnAt)], [], [], [(0, [0, 1, 2])], [], 2)
def f_Md_entryNow : mm_F := fun args h => mm_ga [1, 1, 1] args (mm_gd 12 args h (mm_run p_Md_entryNow (mm_fu + 1) 0 args [] h))
set_option maxRecDepth 100000 in
theorem e_Md_entryNow_0 (f : Nat) (t : Nat) (v1 : Int32) (v2 : Int32) (h : mm_H) : mm_run p_Md_entryNow (f + 1) 0 [.ref t, .int v1, .int v2] [] h =
  mm_ci (f_Md_columnAt [.ref t, .int v1] h) fun x2 h1 =>
  mm_ci (f_Md_valueOf [.ref t, .int 0, .int v2, .int x2] h1) fun x4 h3 =>
  mm_ci (f_Md_entryOf [.ref t, .int v1, .int v2, .int x4] h3) fun x6 h5 =>
  some (some (.int x6), h5) := rfl
theorem e_Md_entryNow (t : Nat) (v1 : Int32) (v2 : Int32) (h : mm_H) {fs : List Value} (hb : h t = some (.inr (12, fs))) : f_Md_entryNow [.ref t, .int v1, .int v2] h =
  mm_ci (f_Md_columnAt [.ref t, .int v1] h) fun x2 h1 =>
  mm_ci (f_Md_valueOf [.ref t, .int 0, .int v2, .int x2] h1) fun x4 h3 =>
  mm_ci (f_Md_entryOf [.ref t, .int v1, .int v2, .int x4] h3) fun x6 h5 =>
  some (some (.int x6), h5) := (mm_ga_is rfl).trans ((mm_gd_is hb).trans (e_Md_entryNow_0 mm_fu t v1 v2 h))
set_option maxRecDepth 100000 in
theorem i_Md_entryNow (l : Launch) : mm_Imp l yX12_entryNow cX12_entryNow 3 (some .int) 3 f_Md_entryNow := mm_imp l (P := p_Md_entryNow) mm_cls_ok mm_sys_ok (by decide) (mm_Pok_of (fun _ h => absurd h List.not_mem_nil) (List.forall_mem_cons.mpr ⟨v_Md_valueOf l q_1761 (by decide), (List.forall_mem_cons.mpr ⟨v_Md_entryOf l q_1791 (by decide), (List.forall_mem_cons.mpr ⟨v_Md_columnAt l q_1787 (by decide), (fun _ h => absurd h List.not_mem_nil)⟩)⟩)⟩) (fun _ h => absurd h List.not_mem_nil) (fun _ h => absurd h List.not_mem_nil)) (by decide +kernel) rfl (cats := [1, 1, 1]) (fun as h r e => ⟨(mm_ga_inv e).1, (mm_gd_inv (mm_ga_inv e).2).1⟩) rfl (by decide)
theorem v_Md_entryNow (l : Launch) {own : String} {i n0 : Nat} (hl : Cond.methodLink own i yX12_entryNow ∈ mm_tbl) (hn : 4 ≤ n0) : mm_cok l own n0 i (0, 2, 1, f_Md_entryNow) := Or.inr (Or.inr ⟨rfl, yX12_entryNow, cX12_entryNow, 3, (some .int), 3, 12, TX12, 27, i_Md_entryNow l, hn, by decide, by decide +kernel, rfl, fun _ _ _ e => (mm_gd_inv (mm_ga_inv e).2).2, hl, q_2343, q_150, q_179, q_2344⟩)
def p_Md_fetch : mm_P := ([(0, .aload_n 0, 1, 0), (1, .iconst 0, 1, 0), (2, .putfield 1, 3, 0), (5, .iconst (-1), 1, (-1)), (6, .istore_n 1, 1, 0), (7, .aload_n 0, 1, 0), (8, .getfield 452, 3, 0), (11, .ifCond .ge 7, 3, 0), (14, .iconst 0, 1, 0), (15, .goto 17, 3, 0), (18, .aload_n 0, 1, 0), (19, .iconst 0, 1, 0), (20, .invokevirtual 279, 3, 0), (23, .aload_n 0, 1, 0), (24, .aload_n 0, 1, 0), (25, .getfield 452, 3, 0), (28, .invokevirtual 520, 3, 0), (31, .iand, 1, 0), (32, .istore_n 2, 1, 0), (33, .iconst 0, 1, 0), (34, .istore_n 3, 1, 0), (35, .iload_n 3, 1, 0), (36, .bipush 30, 2, 30), (38, .if_icmp .ge 115, 3, 0), (41, .iload_n 2, 1, 0), (42, .iload_n 3, 1, 0), (43, .invokestatic 282, 3, 0), (46, .ifCond .eq 101, 3, 0), (49, .aload_n 0, 1, 0), (50, .iconst 0, 1, 0), (51, .iload_n 3, 1, 0), (52, .aload_n 0, 1, 0), (53, .aload_n 0, 1, 0), (54, .getfield 452, 3, 0), (57, .invokevirtual 411, 3, 0), (60, .invokevirtual 286, 3, 0), (63, .istore 4, 2, 0), (65, .aload_n 0, 1, 0), (66, .aload_n 0, 1, 0), (67, .getfield 452, 3, 0), (70, .iload_n 3, 1, 0), (71, .invokevirtual 529, 3, 0), (74, .istore 5, 2, 0), (76, .aload_n 0, 1, 0), (77, .aload_n 0, 1, 0), (78, .getfield 452, 3, 0), (81, .invokevirtual 299, 3, 0), (84, .iconst 1, 1, 1), (85, .if_icmp .ne 15, 3, 0), (88, .iload 4, 2, 0), (90, .aload_n 0, 1, 0), (91, .getfield 523, 3, 0), (94, .if_icmp .gt 28, 3, 0), (97, .goto 12, 3, 0), (100, .iload 4, 2, 0), (102, .aload_n 0, 1, 0), (103, .getfield 523, 3, 0), (106, .if_icmp .lt 16, 3, 0), (109, .iload 5, 2, 0), (111, .aload_n 0, 1, 0), (112, .getfield 526, 3, 0), (115, .if_icmp .le 7, 3, 0), (118, .iconst 1, 1, 1), (119, .goto 4, 3, 0), (122, .iconst 0, 1, 0), (123, .istore 6, 2, 0), (125, .iload 6, 2, 0), (127, .ifCond .eq 18, 3, 0), (130, .iload_n 1, 1, 0), (131, .ifCond .lt 9, 3, 0), (134, .iload 5, 2, 0), (136, .iload_n 1, 1, 0), (137, .if_icmp .ge 8, 3, 0), (140, .iload 5, 2, 0), (142, .goto 4, 3, 0), (145, .iload_n 1, 1, 0), (146, .istore_n 1, 1, 0), (147, .iinc 3 1, 3, 1), (150, .goto (-115), 3, 0), (153, .aload_n 0, 1, 0), (154, .iload_n 1, 1, 0), (155, .ifCond .ge 10, 3, 0), (158, .aload_n 0, 1, 0), (159, .getfield 526, 3, 0), (162, .goto 4, 3, 0), (165, .iload_n 1, 1, 0), (166, .putfield 526, 3, 0), (169, .iload_n 1, 1, 0), (170, .ifCond .ge 7, 3, 0), (173, .iconst (-1), 1, (-1)), (174, .goto 7, 3, 0), (177, .iload_n 1, 1, 0), (178, .bipush 32, 2, 32), (180, .irem, 1, 0), (181, .ireturn, 1, 0)], [(1, 12, 0, 0), (452, 12, 17, 0), (523, 12, 18, 0), (526, 12, 19, 0)], [(279, 0, 1, 1, f_Md_visible), (282, 1, 2, 1, f_Md_has), (286, 0, 3, 1, f_Md_valueOf), (299, 0, 1, 1, f_Md_kindOf), (411, 0, 1, 1, f_Md_columnAt), (520, 0, 1, 1, f_Md_belongSet), (529, 0, 2, 1, f_Md_entryNow)], [], [], [(0, [0]), (35, [0, 1, 2, 3]), (109, [0, 1, 2, 3, 5])], [], 2)
def f_Md_fetch : mm_F := fun args h => mm_ga [1] args (mm_gd 12 args h (mm_run p_Md_fetch (mm_fu + 1) 0 args [] h))
set_option maxRecDepth 100000 in
theorem e_Md_fetch_0 (f : Nat) (t : Nat) (h : mm_H) : mm_run p_Md_fetch (f + 1) 0 [.ref t] [] h =
  (mm_pf 12 0 (.int 0) h t).bind fun h1 =>
  (mm_gi 12 17 h1 t).bind fun x2 =>
  if x2 < 0 then
    mm_run p_Md_fetch f 35 [.ref t, .int (-1), .int 0, .int 0] [] h1
  else
    mm_ci (f_Md_visible [.ref t, .int 0] h1) fun x4 h3 =>
    (mm_gi 12 17 h3 t).bind fun x5 =>
    mm_ci (f_Md_belongSet [.ref t, .int x5] h3) fun x7 h6 =>
    mm_run p_Md_fetch f 35 [.ref t, .int (-1), .int (x4 &&& x7), .int 0] [] h6 := rfl
theorem e_Md_fetch (t : Nat) (h : mm_H) {fs : List Value} (hb : h t = some (.inr (12, fs))) : f_Md_fetch [.ref t] h =
  (mm_pf 12 0 (.int 0) h t).bind fun h1 =>
  (mm_gi 12 17 h1 t).bind fun x2 =>
  if x2 < 0 then
    mm_run p_Md_fetch mm_fu 35 [.ref t, .int (-1), .int 0, .int 0] [] h1
  else
    mm_ci (f_Md_visible [.ref t, .int 0] h1) fun x4 h3 =>
    (mm_gi 12 17 h3 t).bind fun x5 =>
    mm_ci (f_Md_belongSet [.ref t, .int x5] h3) fun x7 h6 =>
    mm_run p_Md_fetch mm_fu 35 [.ref t, .int (-1), .int (x4 &&& x7), .int 0] [] h6 := (mm_ga_is rfl).trans ((mm_gd_is hb).trans (e_Md_fetch_0 mm_fu t h))
set_option maxRecDepth 100000 in
theorem e_Md_fetch_35 (f : Nat) (t : Nat) (v1 : Int32) (v2 : Int32) (v3 : Int32) (h : mm_H) : mm_run p_Md_fetch (f + 1) 35 [.ref t, .int v1, .int v2, .int v3] [] h =
  if v3 < 30 then
    mm_ci (f_Md_has [.int v2, .int v3] h) fun x2 h1 =>
    if x2 = 0 then
      mm_run p_Md_fetch f 35 [.ref t, .int v1, .int v2, .int (v3 + 1)] [] h1
    else
      (mm_gi 12 17 h1 t).bind fun x3 =>
      mm_ci (f_Md_columnAt [.ref t, .int x3] h1) fun x5 h4 =>
      mm_ci (f_Md_valueOf [.ref t, .int 0, .int v3, .int x5] h4) fun x7 h6 =>
      (mm_gi 12 17 h6 t).bind fun x8 =>
      mm_ci (f_Md_entryNow [.ref t, .int x8, .int v3] h6) fun x10 h9 =>
      (mm_gi 12 17 h9 t).bind fun x11 =>
      mm_ci (f_Md_kindOf [.ref t, .int x11] h9) fun x13 h12 =>
      if x13 = 1 then
        (mm_gi 12 18 h12 t).bind fun x14 =>
        if x14 < x7 then
          mm_run p_Md_fetch f 35 [.ref t, .int v1, .int v2, .int (v3 + 1)] [] h12
        else
          mm_run p_Md_fetch f 109 [.ref t, .int v1, .int v2, .int v3, .int x10] [] h12
      else
        (mm_gi 12 18 h12 t).bind fun x15 =>
        if x7 < x15 then
          mm_run p_Md_fetch f 35 [.ref t, .int v1, .int v2, .int (v3 + 1)] [] h12
        else
          mm_run p_Md_fetch f 109 [.ref t, .int v1, .int v2, .int v3, .int x10] [] h12
  else
    if v1 < 0 then
      (mm_gi 12 19 h t).bind fun x16 =>
      (mm_pf 12 19 (.int x16) h t).bind fun h17 =>
      if v1 < 0 then
        some (some (.int (-1)), h17)
      else
        some (some (.int (mm_rem v1 32)), h17)
    else
      (mm_pf 12 19 (.int v1) h t).bind fun h18 =>
      if v1 < 0 then
        some (some (.int (-1)), h18)
      else
        some (some (.int (mm_rem v1 32)), h18) := rfl
set_option maxRecDepth 100000 in
theorem e_Md_fetch_109 (f : Nat) (t : Nat) (v1 : Int32) (v2 : Int32) (v3 : Int32) (v5 : Int32) (h : mm_H) : mm_run p_Md_fetch (f + 1) 109 [.ref t, .int v1, .int v2, .int v3, .int v5] [] h =
  (mm_gi 12 19 h t).bind fun x1 =>
  if x1 < v5 then
    if v1 < 0 then
      mm_run p_Md_fetch f 35 [.ref t, .int v5, .int v2, .int (v3 + 1)] [] h
    else
      if v5 < v1 then
        mm_run p_Md_fetch f 35 [.ref t, .int v5, .int v2, .int (v3 + 1)] [] h
      else
        mm_run p_Md_fetch f 35 [.ref t, .int v1, .int v2, .int (v3 + 1)] [] h
  else
    mm_run p_Md_fetch f 35 [.ref t, .int v1, .int v2, .int (v3 + 1)] [] h := rfl
set_option maxRecDepth 100000 in
theorem i_Md_fetch (l : Launch) : mm_Imp l yX12_fetch cX12_fetch 7 (some .int) 8 f_Md_fetch := mm_imp l (P := p_Md_fetch) mm_cls_ok mm_sys_ok (by decide) (mm_Pok_of (List.forall_mem_cons.mpr ⟨k_X12_1, (List.forall_mem_cons.mpr ⟨k_X12_452, (List.forall_mem_cons.mpr ⟨k_X12_523, (List.forall_mem_cons.mpr ⟨k_X12_526, (fun _ h => absurd h List.not_mem_nil)⟩)⟩)⟩)⟩) (List.forall_mem_cons.mpr ⟨v_Md_visible l q_1772 (by decide), (List.forall_mem_cons.mpr ⟨v_Md_has l (Or.inl q_1780) (by decide), (List.forall_mem_cons.mpr ⟨v_Md_valueOf l q_1761 (by decide), (List.forall_mem_cons.mpr ⟨v_Md_kindOf l q_1749 (by decide), (List.forall_mem_cons.mpr ⟨v_Md_columnAt l q_1787 (by decide), (List.forall_mem_cons.mpr ⟨v_Md_belongSet l q_2329 (by decide), (List.forall_mem_cons.mpr ⟨v_Md_entryNow l q_2341 (by decide), (fun _ h => absurd h List.not_mem_nil)⟩)⟩)⟩)⟩)⟩)⟩)⟩) (fun _ h => absurd h List.not_mem_nil) (fun _ h => absurd h List.not_mem_nil)) (by decide +kernel) rfl (cats := [1]) (fun as h r e => ⟨(mm_ga_inv e).1, (mm_gd_inv (mm_ga_inv e).2).1⟩) rfl (by decide)
theorem v_Md_fetch (l : Launch) {own : String} {i n0 : Nat} (hl : Cond.methodLink own i yX12_fetch ∈ mm_tbl) (hn : 9 ≤ n0) : mm_cok l own n0 i (0, 0, 1, f_Md_fetch) := Or.inr (Or.inr ⟨rfl, yX12_fetch, cX12_fetch, 7, (some .int), 8, 12, TX12, 27, i_Md_fetch l, hn, by decide, by decide +kernel, rfl, fun _ _ _ e => (mm_gd_inv (mm_ga_inv e).2).2, hl, q_2338, q_2339, q_179, q_2340⟩)
def p_Md_rank_ : mm_P := ([(0, .aload_n 0, 1, 0), (1, .iconst 0, 1, 0), (2, .putfield 1, 3, 0), (5, .aload_n 0, 1, 0), (6, .iload_n 1, 1, 0), (7, .invokevirtual 484, 3, 0), (10, .ifCond .eq 17, 3, 0), (13, .aload_n 0, 1, 0), (14, .iconst 0, 1, 0), (15, .invokevirtual 279, 3, 0), (18, .aload_n 0, 1, 0), (19, .iload_n 1, 1, 0), (20, .invokevirtual 520, 3, 0), (23, .iand, 1, 0), (24, .goto 4, 3, 0), (27, .iconst 0, 1, 0), (28, .istore_n 3, 1, 0), (29, .iload_n 2, 1, 0), (30, .iconst 0, 1, 0), (31, .bipush 29, 2, 29), (33, .invokestatic 275, 3, 0), (36, .ifCond .eq 11, 3, 0), (39, .iload_n 3, 1, 0), (40, .iload_n 2, 1, 0), (41, .invokestatic 282, 3, 0), (44, .ifCond .ne 10, 3, 0), (47, .aload_n 0, 1, 0), (48, .iconst 1, 1, 1), (49, .putfield 1, 3, 0), (52, .iconst 0, 1, 0), (53, .ireturn, 1, 0), (54, .iconst 0, 1, 0), (55, .istore 4, 2, 0), (57, .iconst 0, 1, 0), (58, .istore 5, 2, 0), (60, .iload 5, 2, 0), (62, .bipush 30, 2, 30), (64, .if_icmp .ge 44, 3, 0), (67, .iload 4, 2, 0), (69, .iload_n 3, 1, 0), (70, .iload 5, 2, 0), (72, .invokestatic 282, 3, 0), (75, .ifCond .eq 23, 3, 0), (78, .aload_n 0, 1, 0), (79, .iload_n 1, 1, 0), (80, .iload 5, 2, 0), (82, .invokevirtual 529, 3, 0), (85, .aload_n 0, 1, 0), (86, .iload_n 1, 1, 0), (87, .iload_n 2, 1, 0), (88, .invokevirtual 529, 3, 0), (91, .if_icmp .ge 7, 3, 0), (94, .iconst 1, 1, 1), (95, .goto 4, 3, 0), (98, .iconst 0, 1, 0), (99, .iadd, 1, 0), (100, .istore 4, 2, 0), (102, .iinc 5 1, 3, 1), (105, .goto (-45), 3, 0), (108, .iload 4, 2, 0), (110, .ireturn, 1, 0)], [(1, 12, 0, 0)], [(275, 1, 3, 1, f_Md_within), (279, 0, 1, 1, f_Md_visible), (282, 1, 2, 1, f_Md_has), (484, 0, 1, 1, f_Md_isIndex), (520, 0, 1, 1, f_Md_belongSet), (529, 0, 2, 1, f_Md_entryNow)], [], [], [(0, [0, 1, 2]), (60, [0, 1, 2, 3, 4, 5])], [], 2)
def f_Md_rank_ : mm_F := fun args h => mm_ga [1, 1, 1] args (mm_gd 12 args h (mm_run p_Md_rank_ (mm_fu + 1) 0 args [] h))
set_option maxRecDepth 100000 in
theorem e_Md_rank__0 (f : Nat) (t : Nat) (v1 : Int32) (v2 : Int32) (h : mm_H) : mm_run p_Md_rank_ (f + 1) 0 [.ref t, .int v1, .int v2] [] h =
  (mm_pf 12 0 (.int 0) h t).bind fun h1 =>
  mm_ci (f_Md_isIndex [.ref t, .int v1] h1) fun x3 h2 =>
  if x3 = 0 then
    mm_ci (f_Md_within [.int v2, .int 0, .int 29] h2) fun x5 h4 =>
    if x5 = 0 then
      (mm_pf 12 0 (.int 1) h4 t).bind fun h6 =>
      some (some (.int 0), h6)
    else
      mm_ci (f_Md_has [.int 0, .int v2] h4) fun x8 h7 =>
      if x8 = 0 then
        (mm_pf 12 0 (.int 1) h7 t).bind fun h9 =>
        some (some (.int 0), h9)
      else
        mm_run p_Md_rank_ f 60 [.ref t, .int v1, .int v2, .int 0, .int 0, .int 0] [] h7
  else
    mm_ci (f_Md_visible [.ref t, .int 0] h2) fun x11 h10 =>
    mm_ci (f_Md_belongSet [.ref t, .int v1] h10) fun x13 h12 =>
    mm_ci (f_Md_within [.int v2, .int 0, .int 29] h12) fun x15 h14 =>
    if x15 = 0 then
      (mm_pf 12 0 (.int 1) h14 t).bind fun h16 =>
      some (some (.int 0), h16)
    else
      mm_ci (f_Md_has [.int (x11 &&& x13), .int v2] h14) fun x18 h17 =>
      if x18 = 0 then
        (mm_pf 12 0 (.int 1) h17 t).bind fun h19 =>
        some (some (.int 0), h19)
      else
        mm_run p_Md_rank_ f 60 [.ref t, .int v1, .int v2, .int (x11 &&& x13), .int 0, .int 0] [] h17 := rfl
theorem e_Md_rank_ (t : Nat) (v1 : Int32) (v2 : Int32) (h : mm_H) {fs : List Value} (hb : h t = some (.inr (12, fs))) : f_Md_rank_ [.ref t, .int v1, .int v2] h =
  (mm_pf 12 0 (.int 0) h t).bind fun h1 =>
  mm_ci (f_Md_isIndex [.ref t, .int v1] h1) fun x3 h2 =>
  if x3 = 0 then
    mm_ci (f_Md_within [.int v2, .int 0, .int 29] h2) fun x5 h4 =>
    if x5 = 0 then
      (mm_pf 12 0 (.int 1) h4 t).bind fun h6 =>
      some (some (.int 0), h6)
    else
      mm_ci (f_Md_has [.int 0, .int v2] h4) fun x8 h7 =>
      if x8 = 0 then
        (mm_pf 12 0 (.int 1) h7 t).bind fun h9 =>
        some (some (.int 0), h9)
      else
        mm_run p_Md_rank_ mm_fu 60 [.ref t, .int v1, .int v2, .int 0, .int 0, .int 0] [] h7
  else
    mm_ci (f_Md_visible [.ref t, .int 0] h2) fun x11 h10 =>
    mm_ci (f_Md_belongSet [.ref t, .int v1] h10) fun x13 h12 =>
    mm_ci (f_Md_within [.int v2, .int 0, .int 29] h12) fun x15 h14 =>
    if x15 = 0 then
      (mm_pf 12 0 (.int 1) h14 t).bind fun h16 =>
      some (some (.int 0), h16)
    else
      mm_ci (f_Md_has [.int (x11 &&& x13), .int v2] h14) fun x18 h17 =>
      if x18 = 0 then
        (mm_pf 12 0 (.int 1) h17 t).bind fun h19 =>
        some (some (.int 0), h19)
      else
        mm_run p_Md_rank_ mm_fu 60 [.ref t, .int v1, .int v2, .int (x11 &&& x13), .int 0, .int 0] [] h17 := (mm_ga_is rfl).trans ((mm_gd_is hb).trans (e_Md_rank__0 mm_fu t v1 v2 h))
set_option maxRecDepth 100000 in
theorem e_Md_rank__60 (f : Nat) (t : Nat) (v1 : Int32) (v2 : Int32) (v3 : Int32) (v4 : Int32) (v5 : Int32) (h : mm_H) : mm_run p_Md_rank_ (f + 1) 60 [.ref t, .int v1, .int v2, .int v3, .int v4, .int v5] [] h =
  if v5 < 30 then
    mm_ci (f_Md_has [.int v3, .int v5] h) fun x2 h1 =>
    if x2 = 0 then
      mm_run p_Md_rank_ f 60 [.ref t, .int v1, .int v2, .int v3, .int (v4 + 0), .int (v5 + 1)] [] h1
    else
      mm_ci (f_Md_entryNow [.ref t, .int v1, .int v5] h1) fun x4 h3 =>
      mm_ci (f_Md_entryNow [.ref t, .int v1, .int v2] h3) fun x6 h5 =>
      if x4 < x6 then
        mm_run p_Md_rank_ f 60 [.ref t, .int v1, .int v2, .int v3, .int (v4 + 1), .int (v5 + 1)] [] h5
      else
        mm_run p_Md_rank_ f 60 [.ref t, .int v1, .int v2, .int v3, .int (v4 + 0), .int (v5 + 1)] [] h5
  else
    some (some (.int v4), h) := rfl
set_option maxRecDepth 100000 in
theorem i_Md_rank_ (l : Launch) : mm_Imp l yX12_rank_ cX12_rank_ 6 (some .int) 8 f_Md_rank_ := mm_imp l (P := p_Md_rank_) mm_cls_ok mm_sys_ok (by decide) (mm_Pok_of (List.forall_mem_cons.mpr ⟨k_X12_1, (fun _ h => absurd h List.not_mem_nil)⟩) (List.forall_mem_cons.mpr ⟨v_Md_within l (Or.inl q_1769) (by decide), (List.forall_mem_cons.mpr ⟨v_Md_visible l q_1772 (by decide), (List.forall_mem_cons.mpr ⟨v_Md_has l (Or.inl q_1780) (by decide), (List.forall_mem_cons.mpr ⟨v_Md_isIndex l q_2166 (by decide), (List.forall_mem_cons.mpr ⟨v_Md_belongSet l q_2329 (by decide), (List.forall_mem_cons.mpr ⟨v_Md_entryNow l q_2341 (by decide), (fun _ h => absurd h List.not_mem_nil)⟩)⟩)⟩)⟩)⟩)⟩) (fun _ h => absurd h List.not_mem_nil) (fun _ h => absurd h List.not_mem_nil)) (by decide +kernel) rfl (cats := [1, 1, 1]) (fun as h r e => ⟨(mm_ga_inv e).1, (mm_gd_inv (mm_ga_inv e).2).1⟩) rfl (by decide)
theorem v_Md_rank_ (l : Launch) {own : String} {i n0 : Nat} (hl : Cond.methodLink own i yX12_rank_ ∈ mm_tbl) (hn : 9 ≤ n0) : mm_cok l own n0 i (0, 2, 1, f_Md_rank_) := Or.inr (Or.inr ⟨rfl, yX12_rank_, cX12_rank_, 6, (some .int), 8, 12, TX12, 27, i_Md_rank_ l, hn, by decide, by decide +kernel, rfl, fun _ _ _ e => (mm_gd_inv (mm_ga_inv e).2).2, hl, q_2346, q_2347, q_179, q_2348⟩)
def p_Md_staleBy : mm_P := ([(0, .aload_n 0, 1, 0), (1, .iload_n 1, 1, 0), (2, .invokevirtual 520, 3, 0), (5, .istore_n 2, 1, 0), (6, .iconst 0, 1, 0), (7, .istore_n 3, 1, 0), (8, .iconst 0, 1, 0), (9, .istore 4, 2, 0), (11, .iload 4, 2, 0), (13, .aload_n 0, 1, 0), (14, .iconst 0, 1, 0), (15, .iload_n 1, 1, 0), (16, .invokevirtual 311, 3, 0), (19, .if_icmp .ge 83, 3, 0), (22, .aload_n 0, 1, 0), (23, .iconst 0, 1, 0), (24, .iload_n 1, 1, 0), (25, .iload 4, 2, 0), (27, .invokevirtual 344, 3, 0), (30, .istore 5, 2, 0), (32, .aload_n 0, 1, 0), (33, .getfield 123, 3, 0), (36, .iconst 0, 1, 0), (37, .iaload, 1, 0), (38, .iload 5, 2, 0), (40, .invokestatic 282, 3, 0), (43, .ifCond .eq 34, 3, 0), (46, .iload_n 2, 1, 0), (47, .iload 5, 2, 0), (49, .invokestatic 282, 3, 0), (52, .ifCond .eq 25, 3, 0), (55, .aload_n 0, 1, 0), (56, .iload_n 1, 1, 0), (57, .iload 5, 2, 0), (59, .invokevirtual 529, 3, 0), (62, .aload_n 0, 1, 0), (63, .iconst 0, 1, 0), (64, .iload_n 1, 1, 0), (65, .iload 4, 2, 0), (67, .invokevirtual 308, 3, 0), (70, .if_icmp .ne 7, 3, 0), (73, .iconst 1, 1, 1), (74, .goto 4, 3, 0), (77, .iconst 0, 1, 0), (78, .istore 6, 2, 0), (80, .iload_n 3, 1, 0), (81, .iload 6, 2, 0), (83, .ifCond .eq 7, 3, 0), (86, .iconst 0, 1, 0), (87, .goto 7, 3, 0), (90, .iconst 1, 1, 1), (91, .iload 5, 2, 0), (93, .ishl, 1, 0), (94, .ior, 1, 0), (95, .istore_n 3, 1, 0), (96, .iinc 4 1, 3, 1), (99, .goto (-88), 3, 0), (102, .iload_n 3, 1, 0), (103, .ireturn, 1, 0)], [(123, 12, 14, 4)], [(282, 1, 2, 1, f_Md_has), (308, 0, 3, 1, f_Md_entryAt), (311, 0, 2, 1, f_Md_entries), (344, 0, 3, 1, f_Md_rowAt), (520, 0, 1, 1, f_Md_belongSet), (529, 0, 2, 1, f_Md_entryNow)], [], [], [(0, [0, 1]), (11, [0, 1, 2, 3, 4])], [], 2)
def f_Md_staleBy : mm_F := fun args h => mm_ga [1, 1] args (mm_gd 12 args h (mm_run p_Md_staleBy (mm_fu + 1) 0 args [] h))
set_option maxRecDepth 100000 in
theorem e_Md_staleBy_0 (f : Nat) (t : Nat) (v1 : Int32) (h : mm_H) : mm_run p_Md_staleBy (f + 1) 0 [.ref t, .int v1] [] h =
  mm_ci (f_Md_belongSet [.ref t, .int v1] h) fun x2 h1 =>
  mm_run p_Md_staleBy f 11 [.ref t, .int v1, .int x2, .int 0, .int 0] [] h1 := rfl
theorem e_Md_staleBy (t : Nat) (v1 : Int32) (h : mm_H) {fs : List Value} (hb : h t = some (.inr (12, fs))) : f_Md_staleBy [.ref t, .int v1] h =
  mm_ci (f_Md_belongSet [.ref t, .int v1] h) fun x2 h1 =>
  mm_run p_Md_staleBy mm_fu 11 [.ref t, .int v1, .int x2, .int 0, .int 0] [] h1 := (mm_ga_is rfl).trans ((mm_gd_is hb).trans (e_Md_staleBy_0 mm_fu t v1 h))
set_option maxRecDepth 100000 in
theorem e_Md_staleBy_11 (f : Nat) (t : Nat) (v1 : Int32) (v2 : Int32) (v3 : Int32) (v4 : Int32) (h : mm_H) : mm_run p_Md_staleBy (f + 1) 11 [.ref t, .int v1, .int v2, .int v3, .int v4] [] h =
  mm_ci (f_Md_entries [.ref t, .int 0, .int v1] h) fun x2 h1 =>
  if v4 < x2 then
    mm_ci (f_Md_rowAt [.ref t, .int 0, .int v1, .int v4] h1) fun x4 h3 =>
    (mm_gr 12 14 h3 t).bind fun r5 =>
    (mm_li h3 r5 0).bind fun x6 =>
    mm_ci (f_Md_has [.int x6, .int x4] h3) fun x8 h7 =>
    if x8 = 0 then
      mm_run p_Md_staleBy f 11 [.ref t, .int v1, .int v2, .int (v3 ||| (1 <<< (x4 &&& 31))), .int (v4 + 1)] [] h7
    else
      mm_ci (f_Md_has [.int v2, .int x4] h7) fun x10 h9 =>
      if x10 = 0 then
        mm_run p_Md_staleBy f 11 [.ref t, .int v1, .int v2, .int (v3 ||| (1 <<< (x4 &&& 31))), .int (v4 + 1)] [] h9
      else
        mm_ci (f_Md_entryNow [.ref t, .int v1, .int x4] h9) fun x12 h11 =>
        mm_ci (f_Md_entryAt [.ref t, .int 0, .int v1, .int v4] h11) fun x14 h13 =>
        if x12 = x14 then
          mm_run p_Md_staleBy f 11 [.ref t, .int v1, .int v2, .int (v3 ||| 0), .int (v4 + 1)] [] h13
        else
          mm_run p_Md_staleBy f 11 [.ref t, .int v1, .int v2, .int (v3 ||| (1 <<< (x4 &&& 31))), .int (v4 + 1)] [] h13
  else
    some (some (.int v3), h1) := rfl
set_option maxRecDepth 100000 in
theorem i_Md_staleBy (l : Launch) : mm_Imp l yX12_staleBy cX12_staleBy 7 (some .int) 8 f_Md_staleBy := mm_imp l (P := p_Md_staleBy) mm_cls_ok mm_sys_ok (by decide) (mm_Pok_of (List.forall_mem_cons.mpr ⟨k_X12_123, (fun _ h => absurd h List.not_mem_nil)⟩) (List.forall_mem_cons.mpr ⟨v_Md_has l (Or.inl q_1780) (by decide), (List.forall_mem_cons.mpr ⟨v_Md_entryAt l q_1827 (by decide), (List.forall_mem_cons.mpr ⟨v_Md_entries l q_1807 (by decide), (List.forall_mem_cons.mpr ⟨v_Md_rowAt l q_2170 (by decide), (List.forall_mem_cons.mpr ⟨v_Md_belongSet l q_2329 (by decide), (List.forall_mem_cons.mpr ⟨v_Md_entryNow l q_2341 (by decide), (fun _ h => absurd h List.not_mem_nil)⟩)⟩)⟩)⟩)⟩)⟩) (fun _ h => absurd h List.not_mem_nil) (fun _ h => absurd h List.not_mem_nil)) (by decide +kernel) rfl (cats := [1, 1]) (fun as h r e => ⟨(mm_ga_inv e).1, (mm_gd_inv (mm_ga_inv e).2).1⟩) rfl (by decide)
theorem v_Md_staleBy (l : Launch) {own : String} {i n0 : Nat} (hl : Cond.methodLink own i yX12_staleBy ∈ mm_tbl) (hn : 9 ≤ n0) : mm_cok l own n0 i (0, 1, 1, f_Md_staleBy) := Or.inr (Or.inr ⟨rfl, yX12_staleBy, cX12_staleBy, 7, (some .int), 8, 12, TX12, 27, i_Md_staleBy l, hn, by decide, by decide +kernel, rfl, fun _ _ _ e => (mm_gd_inv (mm_ga_inv e).2).2, hl, q_2355, q_151, q_179, q_2356⟩)
def p_Md_stale : mm_P := ([(0, .aload_n 0, 1, 0), (1, .iconst 0, 1, 0), (2, .putfield 1, 3, 0), (5, .aload_n 0, 1, 0), (6, .iload_n 1, 1, 0), (7, .invokevirtual 484, 3, 0), (10, .ifCond .eq 11, 3, 0), (13, .aload_n 0, 1, 0), (14, .iload_n 1, 1, 0), (15, .invokevirtual 532, 3, 0), (18, .goto 4, 3, 0), (21, .iconst (-1), 1, (-1)), (22, .ireturn, 1, 0)], [(1, 12, 0, 0)], [(484, 0, 1, 1, f_Md_isIndex), (532, 0, 1, 1, f_Md_staleBy)], [], [], [(0, [0, 1])], [], 2)
def f_Md_stale : mm_F := fun args h => mm_ga [1, 1] args (mm_gd 12 args h (mm_run p_Md_stale (mm_fu + 1) 0 args [] h))
set_option maxRecDepth 100000 in
theorem e_Md_stale_0 (f : Nat) (t : Nat) (v1 : Int32) (h : mm_H) : mm_run p_Md_stale (f + 1) 0 [.ref t, .int v1] [] h =
  (mm_pf 12 0 (.int 0) h t).bind fun h1 =>
  mm_ci (f_Md_isIndex [.ref t, .int v1] h1) fun x3 h2 =>
  if x3 = 0 then
    some (some (.int (-1)), h2)
  else
    mm_ci (f_Md_staleBy [.ref t, .int v1] h2) fun x5 h4 =>
    some (some (.int x5), h4) := rfl
theorem e_Md_stale (t : Nat) (v1 : Int32) (h : mm_H) {fs : List Value} (hb : h t = some (.inr (12, fs))) : f_Md_stale [.ref t, .int v1] h =
  (mm_pf 12 0 (.int 0) h t).bind fun h1 =>
  mm_ci (f_Md_isIndex [.ref t, .int v1] h1) fun x3 h2 =>
  if x3 = 0 then
    some (some (.int (-1)), h2)
  else
    mm_ci (f_Md_staleBy [.ref t, .int v1] h2) fun x5 h4 =>
    some (some (.int x5), h4) := (mm_ga_is rfl).trans ((mm_gd_is hb).trans (e_Md_stale_0 mm_fu t v1 h))
set_option maxRecDepth 100000 in
theorem i_Md_stale (l : Launch) : mm_Imp l yX12_stale cX12_stale 2 (some .int) 9 f_Md_stale := mm_imp l (P := p_Md_stale) mm_cls_ok mm_sys_ok (by decide) (mm_Pok_of (List.forall_mem_cons.mpr ⟨k_X12_1, (fun _ h => absurd h List.not_mem_nil)⟩) (List.forall_mem_cons.mpr ⟨v_Md_isIndex l q_2166 (by decide), (List.forall_mem_cons.mpr ⟨v_Md_staleBy l q_2353 (by decide), (fun _ h => absurd h List.not_mem_nil)⟩)⟩) (fun _ h => absurd h List.not_mem_nil) (fun _ h => absurd h List.not_mem_nil)) (by decide +kernel) rfl (cats := [1, 1]) (fun as h r e => ⟨(mm_ga_inv e).1, (mm_gd_inv (mm_ga_inv e).2).1⟩) rfl (by decide)
theorem v_Md_stale (l : Launch) {own : String} {i n0 : Nat} (hl : Cond.methodLink own i yX12_stale ∈ mm_tbl) (hn : 10 ≤ n0) : mm_cok l own n0 i (0, 1, 1, f_Md_stale) := Or.inr (Or.inr ⟨rfl, yX12_stale, cX12_stale, 2, (some .int), 9, 12, TX12, 27, i_Md_stale l, hn, by decide, by decide +kernel, rfl, fun _ _ _ e => (mm_gd_inv (mm_ga_inv e).2).2, hl, q_2350, q_2351, q_179, q_2352⟩)
def p_Md_skips : mm_P := ([(0, .aload_n 0, 1, 0), (1, .iconst 0, 1, 0), (2, .putfield 1, 3, 0), (5, .aload_n 0, 1, 0), (6, .iload_n 1, 1, 0), (7, .invokevirtual 484, 3, 0), (10, .ifCond .ne 5, 3, 0), (13, .iconst (-1), 1, (-1)), (14, .ireturn, 1, 0), (15, .aload_n 0, 1, 0), (16, .iload_n 1, 1, 0), (17, .invokevirtual 532, 3, 0), (20, .aload_n 0, 1, 0), (21, .getfield 123, 3, 0), (24, .iconst 1, 1, 1), (25, .iaload, 1, 0), (26, .ior, 1, 0), (27, .istore_n 3, 1, 0), (28, .iconst 0, 1, 0), (29, .istore 4, 2, 0), (31, .iconst 0, 1, 0), (32, .istore 5, 2, 0), (34, .iload 5, 2, 0), (36, .aload_n 0, 1, 0), (37, .iconst 0, 1, 0), (38, .iload_n 1, 1, 0), (39, .invokevirtual 311, 3, 0), (42, .if_icmp .ge 51, 3, 0), (45, .iload 4, 2, 0), (47, .iload_n 3, 1, 0), (48, .aload_n 0, 1, 0), (49, .iconst 0, 1, 0), (50, .iload_n 1, 1, 0), (51, .iload 5, 2, 0), (53, .invokevirtual 344, 3, 0), (56, .invokestatic 282, 3, 0), (59, .ifCond .eq 24, 3, 0), (62, .aload_n 0, 1, 0), (63, .iload_n 1, 1, 0), (64, .aload_n 0, 1, 0), (65, .iconst 0, 1, 0), (66, .iload_n 1, 1, 0), (67, .iload 5, 2, 0), (69, .invokevirtual 308, 3, 0), (72, .invokevirtual 487, 3, 0), (75, .iload_n 2, 1, 0), (76, .if_icmp .ne 7, 3, 0), (79, .iconst 1, 1, 1), (80, .goto 4, 3, 0), (83, .iconst 0, 1, 0), (84, .iadd, 1, 0), (85, .istore 4, 2, 0), (87, .iinc 5 1, 3, 1), (90, .goto (-56), 3, 0), (93, .iload 4, 2, 0), (95, .ireturn, 1, 0)], [(1, 12, 0, 0), (123, 12, 14, 4)], [(282, 1, 2, 1, f_Md_has), (308, 0, 3, 1, f_Md_entryAt), (311, 0, 2, 1, f_Md_entries), (344, 0, 3, 1, f_Md_rowAt), (484, 0, 1, 1, f_Md_isIndex), (487, 0, 2, 1, f_Md_valueIn), (532, 0, 1, 1, f_Md_staleBy)], [], [], [(0, [0, 1, 2]), (34, [0, 1, 2, 3, 4, 5])], [], 2)
def f_Md_skips : mm_F := fun args h => mm_ga [1, 1, 1] args (mm_gd 12 args h (mm_run p_Md_skips (mm_fu + 1) 0 args [] h))
set_option maxRecDepth 100000 in
theorem e_Md_skips_0 (f : Nat) (t : Nat) (v1 : Int32) (v2 : Int32) (h : mm_H) : mm_run p_Md_skips (f + 1) 0 [.ref t, .int v1, .int v2] [] h =
  (mm_pf 12 0 (.int 0) h t).bind fun h1 =>
  mm_ci (f_Md_isIndex [.ref t, .int v1] h1) fun x3 h2 =>
  if x3 = 0 then
    some (some (.int (-1)), h2)
  else
    mm_ci (f_Md_staleBy [.ref t, .int v1] h2) fun x5 h4 =>
    (mm_gr 12 14 h4 t).bind fun r6 =>
    (mm_li h4 r6 1).bind fun x7 =>
    mm_run p_Md_skips f 34 [.ref t, .int v1, .int v2, .int (x5 ||| x7), .int 0, .int 0] [] h4 := rfl
theorem e_Md_skips (t : Nat) (v1 : Int32) (v2 : Int32) (h : mm_H) {fs : List Value} (hb : h t = some (.inr (12, fs))) : f_Md_skips [.ref t, .int v1, .int v2] h =
  (mm_pf 12 0 (.int 0) h t).bind fun h1 =>
  mm_ci (f_Md_isIndex [.ref t, .int v1] h1) fun x3 h2 =>
  if x3 = 0 then
    some (some (.int (-1)), h2)
  else
    mm_ci (f_Md_staleBy [.ref t, .int v1] h2) fun x5 h4 =>
    (mm_gr 12 14 h4 t).bind fun r6 =>
    (mm_li h4 r6 1).bind fun x7 =>
    mm_run p_Md_skips mm_fu 34 [.ref t, .int v1, .int v2, .int (x5 ||| x7), .int 0, .int 0] [] h4 := (mm_ga_is rfl).trans ((mm_gd_is hb).trans (e_Md_skips_0 mm_fu t v1 v2 h))
set_option maxRecDepth 100000 in
theorem e_Md_skips_34 (f : Nat) (t : Nat) (v1 : Int32) (v2 : Int32) (v3 : Int32) (v4 : Int32) (v5 : Int32) (h : mm_H) : mm_run p_Md_skips (f + 1) 34 [.ref t, .int v1, .int v2, .int v3, .int v4, .int v5] [] h =
  mm_ci (f_Md_entries [.ref t, .int 0, .int v1] h) fun x2 h1 =>
  if v5 < x2 then
    mm_ci (f_Md_rowAt [.ref t, .int 0, .int v1, .int v5] h1) fun x4 h3 =>
    mm_ci (f_Md_has [.int v3, .int x4] h3) fun x6 h5 =>
    if x6 = 0 then
      mm_run p_Md_skips f 34 [.ref t, .int v1, .int v2, .int v3, .int (v4 + 0), .int (v5 + 1)] [] h5
    else
      mm_ci (f_Md_entryAt [.ref t, .int 0, .int v1, .int v5] h5) fun x8 h7 =>
      mm_ci (f_Md_valueIn [.ref t, .int v1, .int x8] h7) fun x10 h9 =>
      if x10 = v2 then
        mm_run p_Md_skips f 34 [.ref t, .int v1, .int v2, .int v3, .int (v4 + 1), .int (v5 + 1)] [] h9
      else
        mm_run p_Md_skips f 34 [.ref t, .int v1, .int v2, .int v3, .int (v4 + 0), .int (v5 + 1)] [] h9
  else
    some (some (.int v4), h1) := rfl
set_option maxRecDepth 100000 in
theorem i_Md_skips (l : Launch) : mm_Imp l yX12_skips cX12_skips 6 (some .int) 9 f_Md_skips := mm_imp l (P := p_Md_skips) mm_cls_ok mm_sys_ok (by decide) (mm_Pok_of (List.forall_mem_cons.mpr ⟨k_X12_1, (List.forall_mem_cons.mpr ⟨k_X12_123, (fun _ h => absurd h List.not_mem_nil)⟩)⟩) (List.forall_mem_cons.mpr ⟨v_Md_has l (Or.inl q_1780) (by decide), (List.forall_mem_cons.mpr ⟨v_Md_entryAt l q_1827 (by decide), (List.forall_mem_cons.mpr ⟨v_Md_entries l q_1807 (by decide), (List.forall_mem_cons.mpr ⟨v_Md_rowAt l q_2170 (by decide), (List.forall_mem_cons.mpr ⟨v_Md_isIndex l q_2166 (by decide), (List.forall_mem_cons.mpr ⟨v_Md_valueIn l q_2174 (by decide), (List.forall_mem_cons.mpr ⟨v_Md_staleBy l q_2353 (by decide), (fun _ h => absurd h List.not_mem_nil)⟩)⟩)⟩)⟩)⟩)⟩)⟩) (fun _ h => absurd h List.not_mem_nil) (fun _ h => absurd h List.not_mem_nil)) (by decide +kernel) rfl (cats := [1, 1, 1]) (fun as h r e => ⟨(mm_ga_inv e).1, (mm_gd_inv (mm_ga_inv e).2).1⟩) rfl (by decide)
theorem v_Md_skips (l : Launch) {own : String} {i n0 : Nat} (hl : Cond.methodLink own i yX12_skips ∈ mm_tbl) (hn : 10 ≤ n0) : mm_cok l own n0 i (0, 2, 1, f_Md_skips) := Or.inr (Or.inr ⟨rfl, yX12_skips, cX12_skips, 6, (some .int), 9, 12, TX12, 27, i_Md_skips l, hn, by decide, by decide +kernel, rfl, fun _ _ _ e => (mm_gd_inv (mm_ga_inv e).2).2, hl, q_2358, q_2359, q_179, q_2360⟩)
def p_Md_missing : mm_P := ([(0, .aload_n 0, 1, 0), (1, .iconst 0, 1, 0), (2, .putfield 1, 3, 0), (5, .aload_n 0, 1, 0), (6, .iload_n 1, 1, 0), (7, .invokevirtual 484, 3, 0), (10, .ifCond .ne 5, 3, 0), (13, .iconst (-1), 1, (-1)), (14, .ireturn, 1, 0), (15, .aload_n 0, 1, 0), (16, .iconst 0, 1, 0), (17, .invokevirtual 279, 3, 0), (20, .aload_n 0, 1, 0), (21, .iload_n 1, 1, 0), (22, .invokevirtual 520, 3, 0), (25, .iand, 1, 0), (26, .istore_n 2, 1, 0), (27, .iconst 0, 1, 0), (28, .istore_n 3, 1, 0), (29, .iload_n 3, 1, 0), (30, .aload_n 0, 1, 0), (31, .iconst 0, 1, 0), (32, .iload_n 1, 1, 0), (33, .invokevirtual 311, 3, 0), (36, .if_icmp .ge 57, 3, 0), (39, .aload_n 0, 1, 0), (40, .iconst 0, 1, 0), (41, .iload_n 1, 1, 0), (42, .iload_n 3, 1, 0), (43, .invokevirtual 344, 3, 0), (46, .istore 4, 2, 0), (48, .iload_n 2, 1, 0), (49, .iload_n 2, 1, 0), (50, .iload 4, 2, 0), (52, .invokestatic 282, 3, 0), (55, .ifCond .eq 29, 3, 0), (58, .aload_n 0, 1, 0), (59, .iload_n 1, 1, 0), (60, .iload 4, 2, 0), (62, .invokevirtual 529, 3, 0), (65, .aload_n 0, 1, 0), (66, .iconst 0, 1, 0), (67, .iload_n 1, 1, 0), (68, .iload_n 3, 1, 0), (69, .invokevirtual 308, 3, 0), (72, .if_icmp .ne 12, 3, 0), (75, .iconst 1, 1, 1), (76, .iload 4, 2, 0), (78, .ishl, 1, 0), (79, .iconst (-1), 1, (-1)), (80, .ixor, 1, 0), (81, .goto 4, 3, 0), (84, .iconst (-1), 1, (-1)), (85, .iand, 1, 0), (86, .istore_n 2, 1, 0), (87, .iinc 3 1, 3, 1), (90, .goto (-61), 3, 0), (93, .iload_n 2, 1, 0), (94, .ireturn, 1, 0)], [(1, 12, 0, 0)], [(279, 0, 1, 1, f_Md_visible), (282, 1, 2, 1, f_Md_has), (308, 0, 3, 1, f_Md_entryAt), (311, 0, 2, 1, f_Md_entries), (344, 0, 3, 1, f_Md_rowAt), (484, 0, 1, 1, f_Md_isIndex), (520, 0, 1, 1, f_Md_belongSet), (529, 0, 2, 1, f_Md_entryNow)], [], [], [(0, [0, 1]), (29, [0, 1, 2, 3])], [], 2)
def f_Md_missing : mm_F := fun args h => mm_ga [1, 1] args (mm_gd 12 args h (mm_run p_Md_missing (mm_fu + 1) 0 args [] h))
set_option maxRecDepth 100000 in
theorem e_Md_missing_0 (f : Nat) (t : Nat) (v1 : Int32) (h : mm_H) : mm_run p_Md_missing (f + 1) 0 [.ref t, .int v1] [] h =
  (mm_pf 12 0 (.int 0) h t).bind fun h1 =>
  mm_ci (f_Md_isIndex [.ref t, .int v1] h1) fun x3 h2 =>
  if x3 = 0 then
    some (some (.int (-1)), h2)
  else
    mm_ci (f_Md_visible [.ref t, .int 0] h2) fun x5 h4 =>
    mm_ci (f_Md_belongSet [.ref t, .int v1] h4) fun x7 h6 =>
    mm_run p_Md_missing f 29 [.ref t, .int v1, .int (x5 &&& x7), .int 0] [] h6 := rfl
theorem e_Md_missing (t : Nat) (v1 : Int32) (h : mm_H) {fs : List Value} (hb : h t = some (.inr (12, fs))) : f_Md_missing [.ref t, .int v1] h =
  (mm_pf 12 0 (.int 0) h t).bind fun h1 =>
  mm_ci (f_Md_isIndex [.ref t, .int v1] h1) fun x3 h2 =>
  if x3 = 0 then
    some (some (.int (-1)), h2)
  else
    mm_ci (f_Md_visible [.ref t, .int 0] h2) fun x5 h4 =>
    mm_ci (f_Md_belongSet [.ref t, .int v1] h4) fun x7 h6 =>
    mm_run p_Md_missing mm_fu 29 [.ref t, .int v1, .int (x5 &&& x7), .int 0] [] h6 := (mm_ga_is rfl).trans ((mm_gd_is hb).trans (e_Md_missing_0 mm_fu t v1 h))
set_option maxRecDepth 100000 in
theorem e_Md_missing_29 (f : Nat) (t : Nat) (v1 : Int32) (v2 : Int32) (v3 : Int32) (h : mm_H) : mm_run p_Md_missing (f + 1) 29 [.ref t, .int v1, .int v2, .int v3] [] h =
  mm_ci (f_Md_entries [.ref t, .int 0, .int v1] h) fun x2 h1 =>
  if v3 < x2 then
    mm_ci (f_Md_rowAt [.ref t, .int 0, .int v1, .int v3] h1) fun x4 h3 =>
    mm_ci (f_Md_has [.int v2, .int x4] h3) fun x6 h5 =>
    if x6 = 0 then
      mm_run p_Md_missing f 29 [.ref t, .int v1, .int (v2 &&& (-1)), .int (v3 + 1)] [] h5
    else
      mm_ci (f_Md_entryNow [.ref t, .int v1, .int x4] h5) fun x8 h7 =>
      mm_ci (f_Md_entryAt [.ref t, .int 0, .int v1, .int v3] h7) fun x10 h9 =>
      if x8 = x10 then
        mm_run p_Md_missing f 29 [.ref t, .int v1, .int (v2 &&& ((1 <<< (x4 &&& 31)) ^^^ (-1))), .int (v3 + 1)] [] h9
      else
        mm_run p_Md_missing f 29 [.ref t, .int v1, .int (v2 &&& (-1)), .int (v3 + 1)] [] h9
  else
    some (some (.int v2), h1) := rfl
set_option maxRecDepth 100000 in
theorem i_Md_missing (l : Launch) : mm_Imp l yX12_missing cX12_missing 5 (some .int) 8 f_Md_missing := mm_imp l (P := p_Md_missing) mm_cls_ok mm_sys_ok (by decide) (mm_Pok_of (List.forall_mem_cons.mpr ⟨k_X12_1, (fun _ h => absurd h List.not_mem_nil)⟩) (List.forall_mem_cons.mpr ⟨v_Md_visible l q_1772 (by decide), (List.forall_mem_cons.mpr ⟨v_Md_has l (Or.inl q_1780) (by decide), (List.forall_mem_cons.mpr ⟨v_Md_entryAt l q_1827 (by decide), (List.forall_mem_cons.mpr ⟨v_Md_entries l q_1807 (by decide), (List.forall_mem_cons.mpr ⟨v_Md_rowAt l q_2170 (by decide), (List.forall_mem_cons.mpr ⟨v_Md_isIndex l q_2166 (by decide), (List.forall_mem_cons.mpr ⟨v_Md_belongSet l q_2329 (by decide), (List.forall_mem_cons.mpr ⟨v_Md_entryNow l q_2341 (by decide), (fun _ h => absurd h List.not_mem_nil)⟩)⟩)⟩)⟩)⟩)⟩)⟩)⟩) (fun _ h => absurd h List.not_mem_nil) (fun _ h => absurd h List.not_mem_nil)) (by decide +kernel) rfl (cats := [1, 1]) (fun as h r e => ⟨(mm_ga_inv e).1, (mm_gd_inv (mm_ga_inv e).2).1⟩) rfl (by decide)
theorem v_Md_missing (l : Launch) {own : String} {i n0 : Nat} (hl : Cond.methodLink own i yX12_missing ∈ mm_tbl) (hn : 9 ≤ n0) : mm_cok l own n0 i (0, 1, 1, f_Md_missing) := Or.inr (Or.inr ⟨rfl, yX12_missing, cX12_missing, 5, (some .int), 8, 12, TX12, 27, i_Md_missing l, hn, by decide, by decide +kernel, rfl, fun _ _ _ e => (mm_gd_inv (mm_ga_inv e).2).2, hl, q_2362, q_2363, q_179, q_2364⟩)
def p_Md_side : mm_P := ([(0, .aload_n 0, 1, 0), (1, .iconst 0, 1, 0), (2, .putfield 1, 3, 0), (5, .iload_n 1, 1, 0), (6, .ifCond .lt 26, 3, 0), (9, .iload_n 1, 1, 0), (10, .aload_n 0, 1, 0), (11, .getfield 123, 3, 0), (14, .bipush 12, 2, 12), (16, .iaload, 1, 0), (17, .if_icmp .ge 15, 3, 0), (20, .aload_n 0, 1, 0), (21, .getfield 123, 3, 0), (24, .bipush 79, 2, 79), (26, .iload_n 1, 1, 0), (27, .iadd, 1, 0), (28, .iaload, 1, 0), (29, .goto 6, 3, 0), (32, .ldc_w 537, 3, 0), (35, .ireturn, 1, 0)], [(1, 12, 0, 0), (123, 12, 14, 4)], [], [(537, -2147483648)], [], [(0, [0, 1])], [], 2)
def f_Md_side : mm_F := fun args h => mm_ga [1, 1] args (mm_gd 12 args h (mm_run p_Md_side (mm_fu + 1) 0 args [] h))
set_option maxRecDepth 100000 in
theorem e_Md_side_0 (f : Nat) (t : Nat) (v1 : Int32) (h : mm_H) : mm_run p_Md_side (f + 1) 0 [.ref t, .int v1] [] h =
  (mm_pf 12 0 (.int 0) h t).bind fun h1 =>
  if v1 < 0 then
    some (some (.int (-2147483648)), h1)
  else
    (mm_gr 12 14 h1 t).bind fun r2 =>
    (mm_li h1 r2 12).bind fun x3 =>
    if v1 < x3 then
      (mm_gr 12 14 h1 t).bind fun r4 =>
      (mm_li h1 r4 (79 + v1)).bind fun x5 =>
      some (some (.int x5), h1)
    else
      some (some (.int (-2147483648)), h1) := rfl
theorem e_Md_side (t : Nat) (v1 : Int32) (h : mm_H) {fs : List Value} (hb : h t = some (.inr (12, fs))) : f_Md_side [.ref t, .int v1] h =
  (mm_pf 12 0 (.int 0) h t).bind fun h1 =>
  if v1 < 0 then
    some (some (.int (-2147483648)), h1)
  else
    (mm_gr 12 14 h1 t).bind fun r2 =>
    (mm_li h1 r2 12).bind fun x3 =>
    if v1 < x3 then
      (mm_gr 12 14 h1 t).bind fun r4 =>
      (mm_li h1 r4 (79 + v1)).bind fun x5 =>
      some (some (.int x5), h1)
    else
      some (some (.int (-2147483648)), h1) := (mm_ga_is rfl).trans ((mm_gd_is hb).trans (e_Md_side_0 mm_fu t v1 h))
set_option maxRecDepth 100000 in
theorem i_Md_side (l : Launch) : mm_Imp l yX12_side cX12_side 2 (some .int) 1 f_Md_side := mm_imp l (P := p_Md_side) mm_cls_ok mm_sys_ok (by decide) (mm_Pok_of (List.forall_mem_cons.mpr ⟨k_X12_1, (List.forall_mem_cons.mpr ⟨k_X12_123, (fun _ h => absurd h List.not_mem_nil)⟩)⟩) (fun _ h => absurd h List.not_mem_nil) (List.forall_mem_cons.mpr ⟨q_2369, (fun _ h => absurd h List.not_mem_nil)⟩) (fun _ h => absurd h List.not_mem_nil)) (by decide +kernel) rfl (cats := [1, 1]) (fun as h r e => ⟨(mm_ga_inv e).1, (mm_gd_inv (mm_ga_inv e).2).1⟩) rfl (by decide)
theorem v_Md_side (l : Launch) {own : String} {i n0 : Nat} (hl : Cond.methodLink own i yX12_side ∈ mm_tbl) (hn : 2 ≤ n0) : mm_cok l own n0 i (0, 1, 1, f_Md_side) := Or.inr (Or.inr ⟨rfl, yX12_side, cX12_side, 2, (some .int), 1, 12, TX12, 27, i_Md_side l, hn, by decide, by decide +kernel, rfl, fun _ _ _ e => (mm_gd_inv (mm_ga_inv e).2).2, hl, q_2366, q_2367, q_179, q_2368⟩)
def p_Md_splits : mm_P := ([(0, .aload_n 0, 1, 0), (1, .iconst 0, 1, 0), (2, .putfield 1, 3, 0), (5, .aload_n 0, 1, 0), (6, .iload_n 1, 1, 0), (7, .invokevirtual 484, 3, 0), (10, .ifCond .eq 19, 3, 0), (13, .iload_n 2, 1, 0), (14, .invokestatic 461, 3, 0), (17, .ifCond .eq 12, 3, 0), (20, .aload_n 0, 1, 0), (21, .iconst 0, 1, 0), (22, .iload_n 1, 1, 0), (23, .invokevirtual 311, 3, 0), (26, .ifCond .ne 5, 3, 0), (29, .iconst 0, 1, 0), (30, .ireturn, 1, 0), (31, .aload_n 0, 1, 0), (32, .iload_n 1, 1, 0), (33, .aload_n 0, 1, 0), (34, .getfield 123, 3, 0), (37, .iconst 2, 1, 2), (38, .iaload, 1, 0), (39, .iload_n 2, 1, 0), (40, .invokevirtual 384, 3, 0), (43, .istore_n 3, 1, 0), (44, .aload_n 0, 1, 0), (45, .iconst 0, 1, 0), (46, .iload_n 1, 1, 0), (47, .iload_n 3, 1, 0), (48, .invokevirtual 332, 3, 0), (51, .istore 4, 2, 0), (53, .aload_n 0, 1, 0), (54, .iconst 0, 1, 0), (55, .iload_n 1, 1, 0), (56, .iload 4, 2, 0), (58, .ifCond .ne 7, 3, 0), (61, .iconst 0, 1, 0), (62, .goto 7, 3, 0), (65, .iload 4, 2, 0), (67, .iconst 1, 1, 1), (68, .isub, 1, 0), (69, .invokevirtual 335, 3, 0), (72, .aload_n 0, 1, 0), (73, .getfield 326, 3, 0), (76, .aload_n 0, 1, 0), (77, .getfield 323, 3, 0), (80, .isub, 1, 0), (81, .aload_n 0, 1, 0), (82, .invokevirtual 320, 3, 0), (85, .if_icmp .ne 7, 3, 0), (88, .iconst 1, 1, 1), (89, .goto 4, 3, 0), (92, .iconst 0, 1, 0), (93, .ireturn, 1, 0)], [(1, 12, 0, 0), (123, 12, 14, 4), (323, 12, 20, 0), (326, 12, 21, 0)], [(311, 0, 2, 1, f_Md_entries), (320, 0, 0, 1, f_Md_page), (332, 0, 3, 1, f_Md_placeFor), (335, 0, 3, 0, f_Md_leafAround), (384, 0, 3, 1, f_Md_entryOf), (461, 1, 1, 1, f_Md_isValue), (484, 0, 1, 1, f_Md_isIndex)], [], [], [(0, [0, 1, 2])], [], 1)
def f_Md_splits : mm_F := fun args h => mm_ga [1, 1, 1] args (mm_gd 12 args h (mm_run p_Md_splits (mm_fu + 1) 0 args [] h))
set_option maxRecDepth 100000 in
theorem e_Md_splits_0 (f : Nat) (t : Nat) (v1 : Int32) (v2 : Int32) (h : mm_H) : mm_run p_Md_splits (f + 1) 0 [.ref t, .int v1, .int v2] [] h =
  (mm_pf 12 0 (.int 0) h t).bind fun h1 =>
  mm_ci (f_Md_isIndex [.ref t, .int v1] h1) fun x3 h2 =>
  if x3 = 0 then
    some (some (.int 0), h2)
  else
    mm_ci (f_Md_isValue [.int v2] h2) fun x5 h4 =>
    if x5 = 0 then
      some (some (.int 0), h4)
    else
      mm_ci (f_Md_entries [.ref t, .int 0, .int v1] h4) fun x7 h6 =>
      if x7 = 0 then
        some (some (.int 0), h6)
      else
        (mm_gr 12 14 h6 t).bind fun r8 =>
        (mm_li h6 r8 2).bind fun x9 =>
        mm_ci (f_Md_entryOf [.ref t, .int v1, .int x9, .int v2] h6) fun x11 h10 =>
        mm_ci (f_Md_placeFor [.ref t, .int 0, .int v1, .int x11] h10) fun x13 h12 =>
        if x13 = 0 then
          mm_cv (f_Md_leafAround [.ref t, .int 0, .int v1, .int 0] h12) fun h14 =>
          (mm_gi 12 21 h14 t).bind fun x15 =>
          (mm_gi 12 20 h14 t).bind fun x16 =>
          mm_ci (f_Md_page [.ref t] h14) fun x18 h17 =>
          if (x15 - x16) = x18 then
            some (some (.int 1), h17)
          else
            some (some (.int 0), h17)
        else
          mm_cv (f_Md_leafAround [.ref t, .int 0, .int v1, .int (x13 - 1)] h12) fun h19 =>
          (mm_gi 12 21 h19 t).bind fun x20 =>
          (mm_gi 12 20 h19 t).bind fun x21 =>
          mm_ci (f_Md_page [.ref t] h19) fun x23 h22 =>
          if (x20 - x21) = x23 then
            some (some (.int 1), h22)
          else
            some (some (.int 0), h22) := rfl
theorem e_Md_splits (t : Nat) (v1 : Int32) (v2 : Int32) (h : mm_H) {fs : List Value} (hb : h t = some (.inr (12, fs))) : f_Md_splits [.ref t, .int v1, .int v2] h =
  (mm_pf 12 0 (.int 0) h t).bind fun h1 =>
  mm_ci (f_Md_isIndex [.ref t, .int v1] h1) fun x3 h2 =>
  if x3 = 0 then
    some (some (.int 0), h2)
  else
    mm_ci (f_Md_isValue [.int v2] h2) fun x5 h4 =>
    if x5 = 0 then
      some (some (.int 0), h4)
    else
      mm_ci (f_Md_entries [.ref t, .int 0, .int v1] h4) fun x7 h6 =>
      if x7 = 0 then
        some (some (.int 0), h6)
      else
        (mm_gr 12 14 h6 t).bind fun r8 =>
        (mm_li h6 r8 2).bind fun x9 =>
        mm_ci (f_Md_entryOf [.ref t, .int v1, .int x9, .int v2] h6) fun x11 h10 =>
        mm_ci (f_Md_placeFor [.ref t, .int 0, .int v1, .int x11] h10) fun x13 h12 =>
        if x13 = 0 then
          mm_cv (f_Md_leafAround [.ref t, .int 0, .int v1, .int 0] h12) fun h14 =>
          (mm_gi 12 21 h14 t).bind fun x15 =>
          (mm_gi 12 20 h14 t).bind fun x16 =>
          mm_ci (f_Md_page [.ref t] h14) fun x18 h17 =>
          if (x15 - x16) = x18 then
            some (some (.int 1), h17)
          else
            some (some (.int 0), h17)
        else
          mm_cv (f_Md_leafAround [.ref t, .int 0, .int v1, .int (x13 - 1)] h12) fun h19 =>
          (mm_gi 12 21 h19 t).bind fun x20 =>
          (mm_gi 12 20 h19 t).bind fun x21 =>
          mm_ci (f_Md_page [.ref t] h19) fun x23 h22 =>
          if (x20 - x21) = x23 then
            some (some (.int 1), h22)
          else
            some (some (.int 0), h22) := (mm_ga_is rfl).trans ((mm_gd_is hb).trans (e_Md_splits_0 mm_fu t v1 v2 h))
set_option maxRecDepth 100000 in
theorem i_Md_splits (l : Launch) : mm_Imp l yX12_splits cX12_splits 5 (some .boolean) 4 f_Md_splits := mm_imp l (P := p_Md_splits) mm_cls_ok mm_sys_ok (by decide) (mm_Pok_of (List.forall_mem_cons.mpr ⟨k_X12_1, (List.forall_mem_cons.mpr ⟨k_X12_123, (List.forall_mem_cons.mpr ⟨k_X12_323, (List.forall_mem_cons.mpr ⟨k_X12_326, (fun _ h => absurd h List.not_mem_nil)⟩)⟩)⟩)⟩) (List.forall_mem_cons.mpr ⟨v_Md_entries l q_1807 (by decide), (List.forall_mem_cons.mpr ⟨v_Md_page l q_1819 (by decide), (List.forall_mem_cons.mpr ⟨v_Md_placeFor l q_1823 (by decide), (List.forall_mem_cons.mpr ⟨v_Md_leafAround l q_1831 (by decide), (List.forall_mem_cons.mpr ⟨v_Md_entryOf l q_1791 (by decide), (List.forall_mem_cons.mpr ⟨v_Md_isValue l (Or.inl q_2063) (by decide), (List.forall_mem_cons.mpr ⟨v_Md_isIndex l q_2166 (by decide), (fun _ h => absurd h List.not_mem_nil)⟩)⟩)⟩)⟩)⟩)⟩)⟩) (fun _ h => absurd h List.not_mem_nil) (fun _ h => absurd h List.not_mem_nil)) (by decide +kernel) rfl (cats := [1, 1, 1]) (fun as h r e => ⟨(mm_ga_inv e).1, (mm_gd_inv (mm_ga_inv e).2).1⟩) rfl (by decide)
theorem v_Md_splits (l : Launch) {own : String} {i n0 : Nat} (hl : Cond.methodLink own i yX12_splits ∈ mm_tbl) (hn : 5 ≤ n0) : mm_cok l own n0 i (0, 2, 1, f_Md_splits) := Or.inr (Or.inr ⟨rfl, yX12_splits, cX12_splits, 5, (some .boolean), 4, 12, TX12, 27, i_Md_splits l, hn, by decide, by decide +kernel, rfl, fun _ _ _ e => (mm_gd_inv (mm_ga_inv e).2).2, hl, q_2371, q_2372, q_179, q_2373⟩)
def p_Md_fill : mm_P := ([(0, .aload_n 0, 1, 0), (1, .iconst 0, 1, 0), (2, .putfield 1, 3, 0), (5, .aload_n 0, 1, 0), (6, .iload_n 1, 1, 0), (7, .invokevirtual 484, 3, 0), (10, .ifCond .ne 5, 3, 0), (13, .iconst (-1), 1, (-1)), (14, .ireturn, 1, 0), (15, .aload_n 0, 1, 0), (16, .iconst 0, 1, 0), (17, .iload_n 1, 1, 0), (18, .invokevirtual 317, 3, 0), (21, .istore_n 2, 1, 0), (22, .iload_n 2, 1, 0), (23, .ifCond .ne 7, 3, 0), (26, .iconst 0, 1, 0), (27, .goto 19, 3, 0), (30, .bipush 100, 2, 100), (32, .aload_n 0, 1, 0), (33, .iconst 0, 1, 0), (34, .iload_n 1, 1, 0), (35, .invokevirtual 311, 3, 0), (38, .imul, 1, 0), (39, .iload_n 2, 1, 0), (40, .aload_n 0, 1, 0), (41, .invokevirtual 320, 3, 0), (44, .imul, 1, 0), (45, .idiv, 1, 0), (46, .ireturn, 1, 0)], [(1, 12, 0, 0)], [(311, 0, 2, 1, f_Md_entries), (317, 0, 2, 1, f_Md_leaves), (320, 0, 0, 1, f_Md_page), (484, 0, 1, 1, f_Md_isIndex)], [], [], [(0, [0, 1])], [], 2)
def f_Md_fill : mm_F := fun args h => mm_ga [1, 1] args (mm_gd 12 args h (mm_run p_Md_fill (mm_fu + 1) 0 args [] h))
set_option maxRecDepth 100000 in
theorem e_Md_fill_0 (f : Nat) (t : Nat) (v1 : Int32) (h : mm_H) : mm_run p_Md_fill (f + 1) 0 [.ref t, .int v1] [] h =
  (mm_pf 12 0 (.int 0) h t).bind fun h1 =>
  mm_ci (f_Md_isIndex [.ref t, .int v1] h1) fun x3 h2 =>
  if x3 = 0 then
    some (some (.int (-1)), h2)
  else
    mm_ci (f_Md_leaves [.ref t, .int 0, .int v1] h2) fun x5 h4 =>
    if x5 = 0 then
      some (some (.int 0), h4)
    else
      mm_ci (f_Md_entries [.ref t, .int 0, .int v1] h4) fun x7 h6 =>
      mm_ci (f_Md_page [.ref t] h6) fun x9 h8 =>
      if (x5 * x9) = 0 then none else
      some (some (.int ((100 * x7) / (x5 * x9))), h8) := rfl
theorem e_Md_fill (t : Nat) (v1 : Int32) (h : mm_H) {fs : List Value} (hb : h t = some (.inr (12, fs))) : f_Md_fill [.ref t, .int v1] h =
  (mm_pf 12 0 (.int 0) h t).bind fun h1 =>
  mm_ci (f_Md_isIndex [.ref t, .int v1] h1) fun x3 h2 =>
  if x3 = 0 then
    some (some (.int (-1)), h2)
  else
    mm_ci (f_Md_leaves [.ref t, .int 0, .int v1] h2) fun x5 h4 =>
    if x5 = 0 then
      some (some (.int 0), h4)
    else
      mm_ci (f_Md_entries [.ref t, .int 0, .int v1] h4) fun x7 h6 =>
      mm_ci (f_Md_page [.ref t] h6) fun x9 h8 =>
      if (x5 * x9) = 0 then none else
      some (some (.int ((100 * x7) / (x5 * x9))), h8) := (mm_ga_is rfl).trans ((mm_gd_is hb).trans (e_Md_fill_0 mm_fu t v1 h))
set_option maxRecDepth 100000 in
theorem i_Md_fill (l : Launch) : mm_Imp l yX12_fill cX12_fill 3 (some .int) 4 f_Md_fill := mm_imp l (P := p_Md_fill) mm_cls_ok mm_sys_ok (by decide) (mm_Pok_of (List.forall_mem_cons.mpr ⟨k_X12_1, (fun _ h => absurd h List.not_mem_nil)⟩) (List.forall_mem_cons.mpr ⟨v_Md_entries l q_1807 (by decide), (List.forall_mem_cons.mpr ⟨v_Md_leaves l q_1803 (by decide), (List.forall_mem_cons.mpr ⟨v_Md_page l q_1819 (by decide), (List.forall_mem_cons.mpr ⟨v_Md_isIndex l q_2166 (by decide), (fun _ h => absurd h List.not_mem_nil)⟩)⟩)⟩)⟩) (fun _ h => absurd h List.not_mem_nil) (fun _ h => absurd h List.not_mem_nil)) (by decide +kernel) rfl (cats := [1, 1]) (fun as h r e => ⟨(mm_ga_inv e).1, (mm_gd_inv (mm_ga_inv e).2).1⟩) rfl (by decide)
theorem v_Md_fill (l : Launch) {own : String} {i n0 : Nat} (hl : Cond.methodLink own i yX12_fill ∈ mm_tbl) (hn : 5 ≤ n0) : mm_cok l own n0 i (0, 1, 1, f_Md_fill) := Or.inr (Or.inr ⟨rfl, yX12_fill, cX12_fill, 3, (some .int), 4, 12, TX12, 27, i_Md_fill l, hn, by decide, by decide +kernel, rfl, fun _ _ _ e => (mm_gd_inv (mm_ga_inv e).2).2, hl, q_2375, q_2376, q_179, q_2377⟩)
def p_Md_sparse : mm_P := ([(0, .aload_n 0, 1, 0), (1, .iconst 0, 1, 0), (2, .putfield 1, 3, 0), (5, .aload_n 0, 1, 0), (6, .iload_n 1, 1, 0), (7, .invokevirtual 484, 3, 0), (10, .ifCond .ne 5, 3, 0), (13, .iconst (-1), 1, (-1)), (14, .ireturn, 1, 0), (15, .iconst 0, 1, 0), (16, .istore_n 2, 1, 0), (17, .iconst 0, 1, 0), (18, .istore_n 3, 1, 0), (19, .iload_n 3, 1, 0), (20, .aload_n 0, 1, 0), (21, .iconst 0, 1, 0), (22, .iload_n 1, 1, 0), (23, .invokevirtual 311, 3, 0), (26, .if_icmp .ge 52, 3, 0), (29, .aload_n 0, 1, 0), (30, .iconst 0, 1, 0), (31, .iload_n 1, 1, 0), (32, .iload_n 3, 1, 0), (33, .invokevirtual 314, 3, 0), (36, .ifCond .eq 36, 3, 0), (39, .aload_n 0, 1, 0), (40, .iconst 0, 1, 0), (41, .iload_n 1, 1, 0), (42, .iload_n 3, 1, 0), (43, .invokevirtual 335, 3, 0), (46, .iload_n 2, 1, 0), (47, .iconst 2, 1, 2), (48, .aload_n 0, 1, 0), (49, .getfield 326, 3, 0), (52, .aload_n 0, 1, 0), (53, .getfield 323, 3, 0), (56, .isub, 1, 0), (57, .imul, 1, 0), (58, .aload_n 0, 1, 0), (59, .invokevirtual 320, 3, 0), (62, .if_icmp .ge 7, 3, 0), (65, .iconst 1, 1, 1), (66, .goto 4, 3, 0), (69, .iconst 0, 1, 0), (70, .iadd, 1, 0), (71, .istore_n 2, 1, 0), (72, .iinc 3 1, 3, 1), (75, .goto (-56), 3, 0), (78, .iload_n 2, 1, 0), (79, .ireturn, 1, 0)], [(1, 12, 0, 0), (323, 12, 20, 0), (326, 12, 21, 0)], [(311, 0, 2, 1, f_Md_entries), (314, 0, 3, 1, f_Md_isFirst), (320, 0, 0, 1, f_Md_page), (335, 0, 3, 0, f_Md_leafAround), (484, 0, 1, 1, f_Md_isIndex)], [], [], [(0, [0, 1]), (19, [0, 1, 2, 3])], [], 2)
def f_Md_sparse : mm_F := fun args h => mm_ga [1, 1] args (mm_gd 12 args h (mm_run p_Md_sparse (mm_fu + 1) 0 args [] h))
set_option maxRecDepth 100000 in
theorem e_Md_sparse_0 (f : Nat) (t : Nat) (v1 : Int32) (h : mm_H) : mm_run p_Md_sparse (f + 1) 0 [.ref t, .int v1] [] h =
  (mm_pf 12 0 (.int 0) h t).bind fun h1 =>
  mm_ci (f_Md_isIndex [.ref t, .int v1] h1) fun x3 h2 =>
  if x3 = 0 then
    some (some (.int (-1)), h2)
  else
    mm_run p_Md_sparse f 19 [.ref t, .int v1, .int 0, .int 0] [] h2 := rfl
theorem e_Md_sparse (t : Nat) (v1 : Int32) (h : mm_H) {fs : List Value} (hb : h t = some (.inr (12, fs))) : f_Md_sparse [.ref t, .int v1] h =
  (mm_pf 12 0 (.int 0) h t).bind fun h1 =>
  mm_ci (f_Md_isIndex [.ref t, .int v1] h1) fun x3 h2 =>
  if x3 = 0 then
    some (some (.int (-1)), h2)
  else
    mm_run p_Md_sparse mm_fu 19 [.ref t, .int v1, .int 0, .int 0] [] h2 := (mm_ga_is rfl).trans ((mm_gd_is hb).trans (e_Md_sparse_0 mm_fu t v1 h))
set_option maxRecDepth 100000 in
theorem e_Md_sparse_19 (f : Nat) (t : Nat) (v1 : Int32) (v2 : Int32) (v3 : Int32) (h : mm_H) : mm_run p_Md_sparse (f + 1) 19 [.ref t, .int v1, .int v2, .int v3] [] h =
  mm_ci (f_Md_entries [.ref t, .int 0, .int v1] h) fun x2 h1 =>
  if v3 < x2 then
    mm_ci (f_Md_isFirst [.ref t, .int 0, .int v1, .int v3] h1) fun x4 h3 =>
    if x4 = 0 then
      mm_run p_Md_sparse f 19 [.ref t, .int v1, .int v2, .int (v3 + 1)] [] h3
    else
      mm_cv (f_Md_leafAround [.ref t, .int 0, .int v1, .int v3] h3) fun h5 =>
      (mm_gi 12 21 h5 t).bind fun x6 =>
      (mm_gi 12 20 h5 t).bind fun x7 =>
      mm_ci (f_Md_page [.ref t] h5) fun x9 h8 =>
      if (2 * (x6 - x7)) < x9 then
        mm_run p_Md_sparse f 19 [.ref t, .int v1, .int (v2 + 1), .int (v3 + 1)] [] h8
      else
        mm_run p_Md_sparse f 19 [.ref t, .int v1, .int (v2 + 0), .int (v3 + 1)] [] h8
  else
    some (some (.int v2), h1) := rfl
set_option maxRecDepth 100000 in
theorem i_Md_sparse (l : Launch) : mm_Imp l yX12_sparse cX12_sparse 4 (some .int) 4 f_Md_sparse := mm_imp l (P := p_Md_sparse) mm_cls_ok mm_sys_ok (by decide) (mm_Pok_of (List.forall_mem_cons.mpr ⟨k_X12_1, (List.forall_mem_cons.mpr ⟨k_X12_323, (List.forall_mem_cons.mpr ⟨k_X12_326, (fun _ h => absurd h List.not_mem_nil)⟩)⟩)⟩) (List.forall_mem_cons.mpr ⟨v_Md_entries l q_1807 (by decide), (List.forall_mem_cons.mpr ⟨v_Md_isFirst l q_1815 (by decide), (List.forall_mem_cons.mpr ⟨v_Md_page l q_1819 (by decide), (List.forall_mem_cons.mpr ⟨v_Md_leafAround l q_1831 (by decide), (List.forall_mem_cons.mpr ⟨v_Md_isIndex l q_2166 (by decide), (fun _ h => absurd h List.not_mem_nil)⟩)⟩)⟩)⟩)⟩) (fun _ h => absurd h List.not_mem_nil) (fun _ h => absurd h List.not_mem_nil)) (by decide +kernel) rfl (cats := [1, 1]) (fun as h r e => ⟨(mm_ga_inv e).1, (mm_gd_inv (mm_ga_inv e).2).1⟩) rfl (by decide)
theorem v_Md_sparse (l : Launch) {own : String} {i n0 : Nat} (hl : Cond.methodLink own i yX12_sparse ∈ mm_tbl) (hn : 5 ≤ n0) : mm_cok l own n0 i (0, 1, 1, f_Md_sparse) := Or.inr (Or.inr ⟨rfl, yX12_sparse, cX12_sparse, 4, (some .int), 4, 12, TX12, 27, i_Md_sparse l, hn, by decide, by decide +kernel, rfl, fun _ _ _ e => (mm_gd_inv (mm_ga_inv e).2).2, hl, q_2379, q_2380, q_179, q_2381⟩)
def p_Md_costs : mm_P := ([(0, .aload_n 0, 1, 0), (1, .iconst 0, 1, 0), (2, .putfield 1, 3, 0), (5, .aload_n 0, 1, 0), (6, .iload_n 1, 1, 0), (7, .invokevirtual 484, 3, 0), (10, .ifCond .eq 12, 3, 0), (13, .iload_n 2, 1, 0), (14, .iconst 0, 1, 0), (15, .iconst 1, 1, 1), (16, .invokestatic 275, 3, 0), (19, .ifCond .ne 5, 3, 0), (22, .iconst (-1), 1, (-1)), (23, .ireturn, 1, 0), (24, .aload_n 0, 1, 0), (25, .iconst 0, 1, 0), (26, .invokevirtual 356, 3, 0), (29, .istore_n 3, 1, 0), (30, .iload_n 2, 1, 0), (31, .ifCond .ne 13, 3, 0), (34, .aload_n 0, 1, 0), (35, .iconst 0, 1, 0), (36, .iload_n 1, 1, 0), (37, .iload_n 3, 1, 0), (38, .invokevirtual 350, 3, 0), (41, .goto 10, 3, 0), (44, .aload_n 0, 1, 0), (45, .iconst 0, 1, 0), (46, .iload_n 1, 1, 0), (47, .iload_n 3, 1, 0), (48, .invokevirtual 353, 3, 0), (51, .ireturn, 1, 0)], [(1, 12, 0, 0)], [(275, 1, 3, 1, f_Md_within), (350, 0, 3, 1, f_Md_passCost), (353, 0, 3, 1, f_Md_probeCost), (356, 0, 1, 1, f_Md_chosenBy), (484, 0, 1, 1, f_Md_isIndex)], [], [], [(0, [0, 1, 2])], [], 2)
def f_Md_costs : mm_F := fun args h => mm_ga [1, 1, 1] args (mm_gd 12 args h (mm_run p_Md_costs (mm_fu + 1) 0 args [] h))
set_option maxRecDepth 100000 in
theorem e_Md_costs_0 (f : Nat) (t : Nat) (v1 : Int32) (v2 : Int32) (h : mm_H) : mm_run p_Md_costs (f + 1) 0 [.ref t, .int v1, .int v2] [] h =
  (mm_pf 12 0 (.int 0) h t).bind fun h1 =>
  mm_ci (f_Md_isIndex [.ref t, .int v1] h1) fun x3 h2 =>
  if x3 = 0 then
    some (some (.int (-1)), h2)
  else
    mm_ci (f_Md_within [.int v2, .int 0, .int 1] h2) fun x5 h4 =>
    if x5 = 0 then
      some (some (.int (-1)), h4)
    else
      mm_ci (f_Md_chosenBy [.ref t, .int 0] h4) fun x7 h6 =>
      if v2 = 0 then
        mm_ci (f_Md_passCost [.ref t, .int 0, .int v1, .int x7] h6) fun x9 h8 =>
        some (some (.int x9), h8)
      else
        mm_ci (f_Md_probeCost [.ref t, .int 0, .int v1, .int x7] h6) fun x11 h10 =>
        some (some (.int x11), h10) := rfl
theorem e_Md_costs (t : Nat) (v1 : Int32) (v2 : Int32) (h : mm_H) {fs : List Value} (hb : h t = some (.inr (12, fs))) : f_Md_costs [.ref t, .int v1, .int v2] h =
  (mm_pf 12 0 (.int 0) h t).bind fun h1 =>
  mm_ci (f_Md_isIndex [.ref t, .int v1] h1) fun x3 h2 =>
  if x3 = 0 then
    some (some (.int (-1)), h2)
  else
    mm_ci (f_Md_within [.int v2, .int 0, .int 1] h2) fun x5 h4 =>
    if x5 = 0 then
      some (some (.int (-1)), h4)
    else
      mm_ci (f_Md_chosenBy [.ref t, .int 0] h4) fun x7 h6 =>
      if v2 = 0 then
        mm_ci (f_Md_passCost [.ref t, .int 0, .int v1, .int x7] h6) fun x9 h8 =>
        some (some (.int x9), h8)
      else
        mm_ci (f_Md_probeCost [.ref t, .int 0, .int v1, .int x7] h6) fun x11 h10 =>
        some (some (.int x11), h10) := (mm_ga_is rfl).trans ((mm_gd_is hb).trans (e_Md_costs_0 mm_fu t v1 v2 h))
set_option maxRecDepth 100000 in
theorem i_Md_costs (l : Launch) : mm_Imp l yX12_costs cX12_costs 4 (some .int) 8 f_Md_costs := mm_imp l (P := p_Md_costs) mm_cls_ok mm_sys_ok (by decide) (mm_Pok_of (List.forall_mem_cons.mpr ⟨k_X12_1, (fun _ h => absurd h List.not_mem_nil)⟩) (List.forall_mem_cons.mpr ⟨v_Md_within l (Or.inl q_1769) (by decide), (List.forall_mem_cons.mpr ⟨v_Md_passCost l q_2202 (by decide), (List.forall_mem_cons.mpr ⟨v_Md_probeCost l q_2206 (by decide), (List.forall_mem_cons.mpr ⟨v_Md_chosenBy l q_2237 (by decide), (List.forall_mem_cons.mpr ⟨v_Md_isIndex l q_2166 (by decide), (fun _ h => absurd h List.not_mem_nil)⟩)⟩)⟩)⟩)⟩) (fun _ h => absurd h List.not_mem_nil) (fun _ h => absurd h List.not_mem_nil)) (by decide +kernel) rfl (cats := [1, 1, 1]) (fun as h r e => ⟨(mm_ga_inv e).1, (mm_gd_inv (mm_ga_inv e).2).1⟩) rfl (by decide)
theorem v_Md_costs (l : Launch) {own : String} {i n0 : Nat} (hl : Cond.methodLink own i yX12_costs ∈ mm_tbl) (hn : 9 ≤ n0) : mm_cok l own n0 i (0, 2, 1, f_Md_costs) := Or.inr (Or.inr ⟨rfl, yX12_costs, cX12_costs, 4, (some .int), 8, 12, TX12, 27, i_Md_costs l, hn, by decide, by decide +kernel, rfl, fun _ _ _ e => (mm_gd_inv (mm_ga_inv e).2).2, hl, q_2383, q_2384, q_179, q_2385⟩)
def p_Md_ways : mm_P := ([(0, .aload_n 0, 1, 0), (1, .iconst 0, 1, 0), (2, .putfield 1, 3, 0), (5, .aload_n 0, 1, 0), (6, .iconst 0, 1, 0), (7, .invokevirtual 356, 3, 0), (10, .istore_n 1, 1, 0), (11, .iconst 0, 1, 0), (12, .istore_n 2, 1, 0), (13, .iconst 0, 1, 0), (14, .istore_n 3, 1, 0), (15, .iload_n 3, 1, 0), (16, .aload_n 0, 1, 0), (17, .invokevirtual 268, 3, 0), (20, .if_icmp .ge 29, 3, 0), (23, .iload_n 2, 1, 0), (24, .aload_n 0, 1, 0), (25, .iconst 0, 1, 0), (26, .iload_n 3, 1, 0), (27, .iload_n 1, 1, 0), (28, .invokevirtual 359, 3, 0), (31, .ifCond .ne 9, 3, 0), (34, .iconst 1, 1, 1), (35, .iload_n 3, 1, 0), (36, .ishl, 1, 0), (37, .goto 4, 3, 0), (40, .iconst 0, 1, 0), (41, .ior, 1, 0), (42, .istore_n 2, 1, 0), (43, .iinc 3 1, 3, 1), (46, .goto (-31), 3, 0), (49, .iload_n 2, 1, 0), (50, .ireturn, 1, 0)], [(1, 12, 0, 0)], [(268, 0, 0, 1, f_Md_indexes), (356, 0, 1, 1, f_Md_chosenBy), (359, 0, 3, 1, f_Md_wayBy)], [], [], [(0, [0]), (15, [0, 1, 2, 3])], [], 2)
def f_Md_ways : mm_F := fun args h => mm_ga [1] args (mm_gd 12 args h (mm_run p_Md_ways (mm_fu + 1) 0 args [] h))
set_option maxRecDepth 100000 in
theorem e_Md_ways_0 (f : Nat) (t : Nat) (h : mm_H) : mm_run p_Md_ways (f + 1) 0 [.ref t] [] h =
  (mm_pf 12 0 (.int 0) h t).bind fun h1 =>
  mm_ci (f_Md_chosenBy [.ref t, .int 0] h1) fun x3 h2 =>
  mm_run p_Md_ways f 15 [.ref t, .int x3, .int 0, .int 0] [] h2 := rfl
theorem e_Md_ways (t : Nat) (h : mm_H) {fs : List Value} (hb : h t = some (.inr (12, fs))) : f_Md_ways [.ref t] h =
  (mm_pf 12 0 (.int 0) h t).bind fun h1 =>
  mm_ci (f_Md_chosenBy [.ref t, .int 0] h1) fun x3 h2 =>
  mm_run p_Md_ways mm_fu 15 [.ref t, .int x3, .int 0, .int 0] [] h2 := (mm_ga_is rfl).trans ((mm_gd_is hb).trans (e_Md_ways_0 mm_fu t h))
set_option maxRecDepth 100000 in
theorem e_Md_ways_15 (f : Nat) (t : Nat) (v1 : Int32) (v2 : Int32) (v3 : Int32) (h : mm_H) : mm_run p_Md_ways (f + 1) 15 [.ref t, .int v1, .int v2, .int v3] [] h =
  mm_ci (f_Md_indexes [.ref t] h) fun x2 h1 =>
  if v3 < x2 then
    mm_ci (f_Md_wayBy [.ref t, .int 0, .int v3, .int v1] h1) fun x4 h3 =>
    if x4 = 0 then
      mm_run p_Md_ways f 15 [.ref t, .int v1, .int (v2 ||| (1 <<< (v3 &&& 31))), .int (v3 + 1)] [] h3
    else
      mm_run p_Md_ways f 15 [.ref t, .int v1, .int (v2 ||| 0), .int (v3 + 1)] [] h3
  else
    some (some (.int v2), h1) := rfl
set_option maxRecDepth 100000 in
theorem i_Md_ways (l : Launch) : mm_Imp l yX12_ways cX12_ways 4 (some .int) 8 f_Md_ways := mm_imp l (P := p_Md_ways) mm_cls_ok mm_sys_ok (by decide) (mm_Pok_of (List.forall_mem_cons.mpr ⟨k_X12_1, (fun _ h => absurd h List.not_mem_nil)⟩) (List.forall_mem_cons.mpr ⟨v_Md_indexes l q_1741 (by decide), (List.forall_mem_cons.mpr ⟨v_Md_chosenBy l q_2237 (by decide), (List.forall_mem_cons.mpr ⟨v_Md_wayBy l q_2198 (by decide), (fun _ h => absurd h List.not_mem_nil)⟩)⟩)⟩) (fun _ h => absurd h List.not_mem_nil) (fun _ h => absurd h List.not_mem_nil)) (by decide +kernel) rfl (cats := [1]) (fun as h r e => ⟨(mm_ga_inv e).1, (mm_gd_inv (mm_ga_inv e).2).1⟩) rfl (by decide)
theorem v_Md_ways (l : Launch) {own : String} {i n0 : Nat} (hl : Cond.methodLink own i yX12_ways ∈ mm_tbl) (hn : 9 ≤ n0) : mm_cok l own n0 i (0, 0, 1, f_Md_ways) := Or.inr (Or.inr ⟨rfl, yX12_ways, cX12_ways, 4, (some .int), 8, 12, TX12, 27, i_Md_ways l, hn, by decide, by decide +kernel, rfl, fun _ _ _ e => (mm_gd_inv (mm_ga_inv e).2).2, hl, q_2387, q_2388, q_179, q_2389⟩)
def p_Md_turn : mm_P := ([(0, .aload_n 0, 1, 0), (1, .iconst 0, 1, 0), (2, .putfield 1, 3, 0), (5, .iconst 0, 1, 0), (6, .istore_n 2, 1, 0), (7, .iconst 0, 1, 0), (8, .istore_n 3, 1, 0), (9, .iconst 0, 1, 0), (10, .istore 4, 2, 0), (12, .aload_n 0, 1, 0), (13, .iload_n 1, 1, 0), (14, .invokevirtual 484, 3, 0), (17, .ifCond .eq 92, 3, 0), (20, .iload 4, 2, 0), (22, .bipush 30, 2, 30), (24, .if_icmp .ge 85, 3, 0), (27, .iconst 0, 1, 0), (28, .istore 5, 2, 0), (30, .iconst 0, 1, 0), (31, .istore 6, 2, 0), (33, .iload 6, 2, 0), (35, .aload_n 0, 1, 0), (36, .iconst 0, 1, 0), (37, .iload_n 1, 1, 0), (38, .invokevirtual 311, 3, 0), (41, .if_icmp .ge 34, 3, 0), (44, .iload 5, 2, 0), (46, .ifCond .ne 16, 3, 0), (49, .aload_n 0, 1, 0), (50, .iconst 0, 1, 0), (51, .iload_n 1, 1, 0), (52, .iload 6, 2, 0), (54, .invokevirtual 344, 3, 0), (57, .iload 4, 2, 0), (59, .if_icmp .ne 7, 3, 0), (62, .iconst 1, 1, 1), (63, .goto 4, 3, 0), (66, .iconst 0, 1, 0), (67, .istore 5, 2, 0), (69, .iinc 6 1, 3, 1), (72, .goto (-39), 3, 0), (75, .iload 5, 2, 0), (77, .ifCond .eq 26, 3, 0), (80, .iload_n 2, 1, 0), (81, .iconst 1, 1, 1), (82, .iload 4, 2, 0), (84, .ishl, 1, 0), (85, .ior, 1, 0), (86, .istore_n 2, 1, 0), (87, .iinc 3 1, 3, 1), (90, .aload_n 0, 1, 0), (91, .iconst 0, 1, 0), (92, .iload_n 1, 1, 0), (93, .iload_n 2, 1, 0), (94, .invokevirtual 359, 3, 0), (97, .iconst 1, 1, 1), (98, .if_icmp .ne 5, 3, 0), (101, .iload_n 3, 1, 0), (102, .ireturn, 1, 0), (103, .iinc 4 1, 3, 1), (106, .goto (-94), 3, 0), (109, .iconst (-1), 1, (-1)), (110, .ireturn, 1, 0)], [(1, 12, 0, 0)], [(311, 0, 2, 1, f_Md_entries), (344, 0, 3, 1, f_Md_rowAt), (359, 0, 3, 1, f_Md_wayBy), (484, 0, 1, 1, f_Md_isIndex)], [], [], [(0, [0, 1]), (12, [0, 1, 2, 3, 4]), (33, [0, 1, 2, 3, 4, 5, 6])], [], 2)
def f_Md_turn : mm_F := fun args h => mm_ga [1, 1] args (mm_gd 12 args h (mm_run p_Md_turn (mm_fu + 1) 0 args [] h))
set_option maxRecDepth 100000 in
theorem e_Md_turn_0 (f : Nat) (t : Nat) (v1 : Int32) (h : mm_H) : mm_run p_Md_turn (f + 1) 0 [.ref t, .int v1] [] h =
  (mm_pf 12 0 (.int 0) h t).bind fun h1 =>
  mm_run p_Md_turn f 12 [.ref t, .int v1, .int 0, .int 0, .int 0] [] h1 := rfl
theorem e_Md_turn (t : Nat) (v1 : Int32) (h : mm_H) {fs : List Value} (hb : h t = some (.inr (12, fs))) : f_Md_turn [.ref t, .int v1] h =
  (mm_pf 12 0 (.int 0) h t).bind fun h1 =>
  mm_run p_Md_turn mm_fu 12 [.ref t, .int v1, .int 0, .int 0, .int 0] [] h1 := (mm_ga_is rfl).trans ((mm_gd_is hb).trans (e_Md_turn_0 mm_fu t v1 h))
set_option maxRecDepth 100000 in
theorem e_Md_turn_12 (f : Nat) (t : Nat) (v1 : Int32) (v2 : Int32) (v3 : Int32) (v4 : Int32) (h : mm_H) : mm_run p_Md_turn (f + 1) 12 [.ref t, .int v1, .int v2, .int v3, .int v4] [] h =
  mm_ci (f_Md_isIndex [.ref t, .int v1] h) fun x2 h1 =>
  if x2 = 0 then
    some (some (.int (-1)), h1)
  else
    if v4 < 30 then
      mm_run p_Md_turn f 33 [.ref t, .int v1, .int v2, .int v3, .int v4, .int 0, .int 0] [] h1
    else
      some (some (.int (-1)), h1) := rfl
set_option maxRecDepth 100000 in
theorem e_Md_turn_33 (f : Nat) (t : Nat) (v1 : Int32) (v2 : Int32) (v3 : Int32) (v4 : Int32) (v5 : Int32) (v6 : Int32) (h : mm_H) : mm_run p_Md_turn (f + 1) 33 [.ref t, .int v1, .int v2, .int v3, .int v4, .int v5, .int v6] [] h =
  mm_ci (f_Md_entries [.ref t, .int 0, .int v1] h) fun x2 h1 =>
  if v6 < x2 then
    if v5 = 0 then
      mm_ci (f_Md_rowAt [.ref t, .int 0, .int v1, .int v6] h1) fun x4 h3 =>
      if x4 = v4 then
        mm_run p_Md_turn f 33 [.ref t, .int v1, .int v2, .int v3, .int v4, .int 1, .int (v6 + 1)] [] h3
      else
        mm_run p_Md_turn f 33 [.ref t, .int v1, .int v2, .int v3, .int v4, .int 0, .int (v6 + 1)] [] h3
    else
      mm_run p_Md_turn f 33 [.ref t, .int v1, .int v2, .int v3, .int v4, .int 1, .int (v6 + 1)] [] h1
  else
    if v5 = 0 then
      mm_run p_Md_turn f 12 [.ref t, .int v1, .int v2, .int v3, .int (v4 + 1)] [] h1
    else
      mm_ci (f_Md_wayBy [.ref t, .int 0, .int v1, .int (v2 ||| (1 <<< (v4 &&& 31)))] h1) fun x6 h5 =>
      if x6 = 1 then
        some (some (.int (v3 + 1)), h5)
      else
        mm_run p_Md_turn f 12 [.ref t, .int v1, .int (v2 ||| (1 <<< (v4 &&& 31))), .int (v3 + 1), .int (v4 + 1)] [] h5 := rfl
set_option maxRecDepth 100000 in
theorem i_Md_turn (l : Launch) : mm_Imp l yX12_turn cX12_turn 7 (some .int) 7 f_Md_turn := mm_imp l (P := p_Md_turn) mm_cls_ok mm_sys_ok (by decide) (mm_Pok_of (List.forall_mem_cons.mpr ⟨k_X12_1, (fun _ h => absurd h List.not_mem_nil)⟩) (List.forall_mem_cons.mpr ⟨v_Md_entries l q_1807 (by decide), (List.forall_mem_cons.mpr ⟨v_Md_rowAt l q_2170 (by decide), (List.forall_mem_cons.mpr ⟨v_Md_wayBy l q_2198 (by decide), (List.forall_mem_cons.mpr ⟨v_Md_isIndex l q_2166 (by decide), (fun _ h => absurd h List.not_mem_nil)⟩)⟩)⟩)⟩) (fun _ h => absurd h List.not_mem_nil) (fun _ h => absurd h List.not_mem_nil)) (by decide +kernel) rfl (cats := [1, 1]) (fun as h r e => ⟨(mm_ga_inv e).1, (mm_gd_inv (mm_ga_inv e).2).1⟩) rfl (by decide)
theorem v_Md_turn (l : Launch) {own : String} {i n0 : Nat} (hl : Cond.methodLink own i yX12_turn ∈ mm_tbl) (hn : 8 ≤ n0) : mm_cok l own n0 i (0, 1, 1, f_Md_turn) := Or.inr (Or.inr ⟨rfl, yX12_turn, cX12_turn, 7, (some .int), 7, 12, TX12, 27, i_Md_turn l, hn, by decide, by decide +kernel, rfl, fun _ _ _ e => (mm_gd_inv (mm_ga_inv e).2).2, hl, q_2391, q_2392, q_179, q_2393⟩)
def p_Md_aheadOf : mm_P := ([(0, .aload_n 0, 1, 0), (1, .iconst 0, 1, 0), (2, .iload_n 1, 1, 0), (3, .invokevirtual 538, 3, 0), (6, .istore_n 3, 1, 0), (7, .iconst 0, 1, 0), (8, .istore 4, 2, 0), (10, .iload 4, 2, 0), (12, .aload_n 0, 1, 0), (13, .iconst 0, 1, 0), (14, .iload_n 1, 1, 0), (15, .invokevirtual 311, 3, 0), (18, .if_icmp .ge 40, 3, 0), (21, .aload_n 0, 1, 0), (22, .iconst 0, 1, 0), (23, .iload_n 1, 1, 0), (24, .iload_n 3, 1, 0), (25, .iload 4, 2, 0), (27, .invokevirtual 399, 3, 0), (30, .istore 5, 2, 0), (32, .iload 5, 2, 0), (34, .ifCond .lt 18, 3, 0), (37, .aload_n 0, 1, 0), (38, .iconst 0, 1, 0), (39, .iload_n 1, 1, 0), (40, .iload 5, 2, 0), (42, .invokevirtual 344, 3, 0), (45, .iload_n 2, 1, 0), (46, .if_icmp .ne 6, 3, 0), (49, .iload 4, 2, 0), (51, .ireturn, 1, 0), (52, .iinc 4 1, 3, 1), (55, .goto (-45), 3, 0), (58, .iconst (-1), 1, (-1)), (59, .ireturn, 1, 0)], [], [(311, 0, 2, 1, f_Md_entries), (344, 0, 3, 1, f_Md_rowAt), (399, 0, 4, 1, f_Md_leftAt), (538, 0, 2, 1, f_Md_wayAt)], [], [], [(0, [0, 1, 2]), (10, [0, 1, 2, 3, 4])], [], 2)
def f_Md_aheadOf : mm_F := fun args h => mm_ga [1, 1, 1] args (mm_gd 12 args h (mm_run p_Md_aheadOf (mm_fu + 1) 0 args [] h))
set_option maxRecDepth 100000 in
theorem e_Md_aheadOf_0 (f : Nat) (t : Nat) (v1 : Int32) (v2 : Int32) (h : mm_H) : mm_run p_Md_aheadOf (f + 1) 0 [.ref t, .int v1, .int v2] [] h =
  mm_ci (f_Md_wayAt [.ref t, .int 0, .int v1] h) fun x2 h1 =>
  mm_run p_Md_aheadOf f 10 [.ref t, .int v1, .int v2, .int x2, .int 0] [] h1 := rfl
theorem e_Md_aheadOf (t : Nat) (v1 : Int32) (v2 : Int32) (h : mm_H) {fs : List Value} (hb : h t = some (.inr (12, fs))) : f_Md_aheadOf [.ref t, .int v1, .int v2] h =
  mm_ci (f_Md_wayAt [.ref t, .int 0, .int v1] h) fun x2 h1 =>
  mm_run p_Md_aheadOf mm_fu 10 [.ref t, .int v1, .int v2, .int x2, .int 0] [] h1 := (mm_ga_is rfl).trans ((mm_gd_is hb).trans (e_Md_aheadOf_0 mm_fu t v1 v2 h))
set_option maxRecDepth 100000 in
theorem e_Md_aheadOf_10 (f : Nat) (t : Nat) (v1 : Int32) (v2 : Int32) (v3 : Int32) (v4 : Int32) (h : mm_H) : mm_run p_Md_aheadOf (f + 1) 10 [.ref t, .int v1, .int v2, .int v3, .int v4] [] h =
  mm_ci (f_Md_entries [.ref t, .int 0, .int v1] h) fun x2 h1 =>
  if v4 < x2 then
    mm_ci (f_Md_leftAt [.ref t, .int 0, .int v1, .int v3, .int v4] h1) fun x4 h3 =>
    if x4 < 0 then
      mm_run p_Md_aheadOf f 10 [.ref t, .int v1, .int v2, .int v3, .int (v4 + 1)] [] h3
    else
      mm_ci (f_Md_rowAt [.ref t, .int 0, .int v1, .int x4] h3) fun x6 h5 =>
      if x6 = v2 then
        some (some (.int v4), h5)
      else
        mm_run p_Md_aheadOf f 10 [.ref t, .int v1, .int v2, .int v3, .int (v4 + 1)] [] h5
  else
    some (some (.int (-1)), h1) := rfl
set_option maxRecDepth 100000 in
theorem i_Md_aheadOf (l : Launch) : mm_Imp l yX12_aheadOf cX12_aheadOf 6 (some .int) 9 f_Md_aheadOf := mm_imp l (P := p_Md_aheadOf) mm_cls_ok mm_sys_ok (by decide) (mm_Pok_of (fun _ h => absurd h List.not_mem_nil) (List.forall_mem_cons.mpr ⟨v_Md_entries l q_1807 (by decide), (List.forall_mem_cons.mpr ⟨v_Md_rowAt l q_2170 (by decide), (List.forall_mem_cons.mpr ⟨v_Md_leftAt l q_2233 (by decide), (List.forall_mem_cons.mpr ⟨v_Md_wayAt l q_2402 (by decide), (fun _ h => absurd h List.not_mem_nil)⟩)⟩)⟩)⟩) (fun _ h => absurd h List.not_mem_nil) (fun _ h => absurd h List.not_mem_nil)) (by decide +kernel) rfl (cats := [1, 1, 1]) (fun as h r e => ⟨(mm_ga_inv e).1, (mm_gd_inv (mm_ga_inv e).2).1⟩) rfl (by decide)
theorem v_Md_aheadOf (l : Launch) {own : String} {i n0 : Nat} (hl : Cond.methodLink own i yX12_aheadOf ∈ mm_tbl) (hn : 10 ≤ n0) : mm_cok l own n0 i (0, 2, 1, f_Md_aheadOf) := Or.inr (Or.inr ⟨rfl, yX12_aheadOf, cX12_aheadOf, 6, (some .int), 9, 12, TX12, 27, i_Md_aheadOf l, hn, by decide, by decide +kernel, rfl, fun _ _ _ e => (mm_gd_inv (mm_ga_inv e).2).2, hl, q_2400, q_152, q_179, q_2401⟩)
def p_Md_when : mm_P := ([(0, .aload_n 0, 1, 0), (1, .iconst 0, 1, 0), (2, .putfield 1, 3, 0), (5, .aload_n 0, 1, 0), (6, .iload_n 1, 1, 0), (7, .invokevirtual 484, 3, 0), (10, .ifCond .eq 22, 3, 0), (13, .aload_n 0, 1, 0), (14, .getfield 123, 3, 0), (17, .iconst 5, 1, 5), (18, .iaload, 1, 0), (19, .iconst 1, 1, 1), (20, .if_icmp .ne 12, 3, 0), (23, .aload_n 0, 1, 0), (24, .iload_n 1, 1, 0), (25, .iload_n 2, 1, 0), (26, .invokevirtual 541, 3, 0), (29, .goto 4, 3, 0), (32, .iconst (-1), 1, (-1)), (33, .istore_n 3, 1, 0), (34, .iload_n 3, 1, 0), (35, .ifCond .ge 5, 3, 0), (38, .iconst (-1), 1, (-1)), (39, .ireturn, 1, 0), (40, .iconst 0, 1, 0), (41, .istore 4, 2, 0), (43, .iload 4, 2, 0), (45, .iload_n 1, 1, 0), (46, .if_icmp .ge 25, 3, 0), (49, .iload_n 3, 1, 0), (50, .aload_n 0, 1, 0), (51, .iconst 0, 1, 0), (52, .iload 4, 2, 0), (54, .aload_n 0, 1, 0), (55, .getfield 123, 3, 0), (58, .iconst 1, 1, 1), (59, .iaload, 1, 0), (60, .invokevirtual 347, 3, 0), (63, .iadd, 1, 0), (64, .istore_n 3, 1, 0), (65, .iinc 4 1, 3, 1), (68, .goto (-25), 3, 0), (71, .iload_n 3, 1, 0), (72, .iconst 1, 1, 1), (73, .iadd, 1, 0), (74, .ireturn, 1, 0)], [(1, 12, 0, 0), (123, 12, 14, 4)], [(347, 0, 3, 1, f_Md_leftMany), (484, 0, 1, 1, f_Md_isIndex), (541, 0, 2, 1, f_Md_aheadOf)], [], [], [(0, [0, 1, 2]), (43, [0, 1, 3, 4])], [], 2)
def f_Md_when : mm_F := fun args h => mm_ga [1, 1, 1] args (mm_gd 12 args h (mm_run p_Md_when (mm_fu + 1) 0 args [] h))
set_option maxRecDepth 100000 in
theorem e_Md_when_0 (f : Nat) (t : Nat) (v1 : Int32) (v2 : Int32) (h : mm_H) : mm_run p_Md_when (f + 1) 0 [.ref t, .int v1, .int v2] [] h =
  (mm_pf 12 0 (.int 0) h t).bind fun h1 =>
  mm_ci (f_Md_isIndex [.ref t, .int v1] h1) fun x3 h2 =>
  if x3 = 0 then
    some (some (.int (-1)), h2)
  else
    (mm_gr 12 14 h2 t).bind fun r4 =>
    (mm_li h2 r4 5).bind fun x5 =>
    if x5 = 1 then
      mm_ci (f_Md_aheadOf [.ref t, .int v1, .int v2] h2) fun x7 h6 =>
      if x7 < 0 then
        some (some (.int (-1)), h6)
      else
        mm_run p_Md_when f 43 [.ref t, .int v1, .int x7, .int 0] [] h6
    else
      some (some (.int (-1)), h2) := rfl
theorem e_Md_when (t : Nat) (v1 : Int32) (v2 : Int32) (h : mm_H) {fs : List Value} (hb : h t = some (.inr (12, fs))) : f_Md_when [.ref t, .int v1, .int v2] h =
  (mm_pf 12 0 (.int 0) h t).bind fun h1 =>
  mm_ci (f_Md_isIndex [.ref t, .int v1] h1) fun x3 h2 =>
  if x3 = 0 then
    some (some (.int (-1)), h2)
  else
    (mm_gr 12 14 h2 t).bind fun r4 =>
    (mm_li h2 r4 5).bind fun x5 =>
    if x5 = 1 then
      mm_ci (f_Md_aheadOf [.ref t, .int v1, .int v2] h2) fun x7 h6 =>
      if x7 < 0 then
        some (some (.int (-1)), h6)
      else
        mm_run p_Md_when mm_fu 43 [.ref t, .int v1, .int x7, .int 0] [] h6
    else
      some (some (.int (-1)), h2) := (mm_ga_is rfl).trans ((mm_gd_is hb).trans (e_Md_when_0 mm_fu t v1 v2 h))
set_option maxRecDepth 100000 in
theorem e_Md_when_43 (f : Nat) (t : Nat) (v1 : Int32) (v3 : Int32) (v4 : Int32) (h : mm_H) : mm_run p_Md_when (f + 1) 43 [.ref t, .int v1, .int v3, .int v4] [] h =
  if v4 < v1 then
    (mm_gr 12 14 h t).bind fun r1 =>
    (mm_li h r1 1).bind fun x2 =>
    mm_ci (f_Md_leftMany [.ref t, .int 0, .int v4, .int x2] h) fun x4 h3 =>
    mm_run p_Md_when f 43 [.ref t, .int v1, .int (v3 + x4), .int (v4 + 1)] [] h3
  else
    some (some (.int (v3 + 1)), h) := rfl
set_option maxRecDepth 100000 in
theorem i_Md_when (l : Launch) : mm_Imp l yX12_when cX12_when 5 (some .int) 10 f_Md_when := mm_imp l (P := p_Md_when) mm_cls_ok mm_sys_ok (by decide) (mm_Pok_of (List.forall_mem_cons.mpr ⟨k_X12_1, (List.forall_mem_cons.mpr ⟨k_X12_123, (fun _ h => absurd h List.not_mem_nil)⟩)⟩) (List.forall_mem_cons.mpr ⟨v_Md_leftMany l q_2194 (by decide), (List.forall_mem_cons.mpr ⟨v_Md_isIndex l q_2166 (by decide), (List.forall_mem_cons.mpr ⟨v_Md_aheadOf l q_2398 (by decide), (fun _ h => absurd h List.not_mem_nil)⟩)⟩)⟩) (fun _ h => absurd h List.not_mem_nil) (fun _ h => absurd h List.not_mem_nil)) (by decide +kernel) rfl (cats := [1, 1, 1]) (fun as h r e => ⟨(mm_ga_inv e).1, (mm_gd_inv (mm_ga_inv e).2).1⟩) rfl (by decide)
theorem v_Md_when (l : Launch) {own : String} {i n0 : Nat} (hl : Cond.methodLink own i yX12_when ∈ mm_tbl) (hn : 11 ≤ n0) : mm_cok l own n0 i (0, 2, 1, f_Md_when) := Or.inr (Or.inr ⟨rfl, yX12_when, cX12_when, 5, (some .int), 10, 12, TX12, 27, i_Md_when l, hn, by decide, by decide +kernel, rfl, fun _ _ _ e => (mm_gd_inv (mm_ga_inv e).2).2, hl, q_2395, q_2396, q_179, q_2397⟩)
def p_Md_next : mm_P := ([(0, .aload_n 0, 1, 0), (1, .iconst 0, 1, 0), (2, .putfield 1, 3, 0), (5, .aload_n 0, 1, 0), (6, .iload_n 1, 1, 0), (7, .invokevirtual 484, 3, 0), (10, .ifCond .eq 7, 3, 0), (13, .iload_n 2, 1, 0), (14, .ifCond .ge 5, 3, 0), (17, .iconst (-1), 1, (-1)), (18, .ireturn, 1, 0), (19, .aload_n 0, 1, 0), (20, .iconst 0, 1, 0), (21, .iload_n 1, 1, 0), (22, .invokevirtual 538, 3, 0), (25, .istore_n 3, 1, 0), (26, .aload_n 0, 1, 0), (27, .iconst 0, 1, 0), (28, .iload_n 1, 1, 0), (29, .iload_n 3, 1, 0), (30, .iload_n 2, 1, 0), (31, .invokevirtual 399, 3, 0), (34, .istore 4, 2, 0), (36, .iload 4, 2, 0), (38, .ifCond .ge 7, 3, 0), (41, .iconst (-1), 1, (-1)), (42, .goto 11, 3, 0), (45, .aload_n 0, 1, 0), (46, .iconst 0, 1, 0), (47, .iload_n 1, 1, 0), (48, .iload 4, 2, 0), (50, .invokevirtual 344, 3, 0), (53, .ireturn, 1, 0)], [(1, 12, 0, 0)], [(344, 0, 3, 1, f_Md_rowAt), (399, 0, 4, 1, f_Md_leftAt), (484, 0, 1, 1, f_Md_isIndex), (538, 0, 2, 1, f_Md_wayAt)], [], [], [(0, [0, 1, 2])], [], 2)
def f_Md_next : mm_F := fun args h => mm_ga [1, 1, 1] args (mm_gd 12 args h (mm_run p_Md_next (mm_fu + 1) 0 args [] h))
set_option maxRecDepth 100000 in
theorem e_Md_next_0 (f : Nat) (t : Nat) (v1 : Int32) (v2 : Int32) (h : mm_H) : mm_run p_Md_next (f + 1) 0 [.ref t, .int v1, .int v2] [] h =
  (mm_pf 12 0 (.int 0) h t).bind fun h1 =>
  mm_ci (f_Md_isIndex [.ref t, .int v1] h1) fun x3 h2 =>
  if x3 = 0 then
    some (some (.int (-1)), h2)
  else
    if v2 < 0 then
      some (some (.int (-1)), h2)
    else
      mm_ci (f_Md_wayAt [.ref t, .int 0, .int v1] h2) fun x5 h4 =>
      mm_ci (f_Md_leftAt [.ref t, .int 0, .int v1, .int x5, .int v2] h4) fun x7 h6 =>
      if x7 < 0 then
        some (some (.int (-1)), h6)
      else
        mm_ci (f_Md_rowAt [.ref t, .int 0, .int v1, .int x7] h6) fun x9 h8 =>
        some (some (.int x9), h8) := rfl
theorem e_Md_next (t : Nat) (v1 : Int32) (v2 : Int32) (h : mm_H) {fs : List Value} (hb : h t = some (.inr (12, fs))) : f_Md_next [.ref t, .int v1, .int v2] h =
  (mm_pf 12 0 (.int 0) h t).bind fun h1 =>
  mm_ci (f_Md_isIndex [.ref t, .int v1] h1) fun x3 h2 =>
  if x3 = 0 then
    some (some (.int (-1)), h2)
  else
    if v2 < 0 then
      some (some (.int (-1)), h2)
    else
      mm_ci (f_Md_wayAt [.ref t, .int 0, .int v1] h2) fun x5 h4 =>
      mm_ci (f_Md_leftAt [.ref t, .int 0, .int v1, .int x5, .int v2] h4) fun x7 h6 =>
      if x7 < 0 then
        some (some (.int (-1)), h6)
      else
        mm_ci (f_Md_rowAt [.ref t, .int 0, .int v1, .int x7] h6) fun x9 h8 =>
        some (some (.int x9), h8) := (mm_ga_is rfl).trans ((mm_gd_is hb).trans (e_Md_next_0 mm_fu t v1 v2 h))
set_option maxRecDepth 100000 in
theorem i_Md_next (l : Launch) : mm_Imp l yX12_next cX12_next 5 (some .int) 9 f_Md_next := mm_imp l (P := p_Md_next) mm_cls_ok mm_sys_ok (by decide) (mm_Pok_of (List.forall_mem_cons.mpr ⟨k_X12_1, (fun _ h => absurd h List.not_mem_nil)⟩) (List.forall_mem_cons.mpr ⟨v_Md_rowAt l q_2170 (by decide), (List.forall_mem_cons.mpr ⟨v_Md_leftAt l q_2233 (by decide), (List.forall_mem_cons.mpr ⟨v_Md_isIndex l q_2166 (by decide), (List.forall_mem_cons.mpr ⟨v_Md_wayAt l q_2402 (by decide), (fun _ h => absurd h List.not_mem_nil)⟩)⟩)⟩)⟩) (fun _ h => absurd h List.not_mem_nil) (fun _ h => absurd h List.not_mem_nil)) (by decide +kernel) rfl (cats := [1, 1, 1]) (fun as h r e => ⟨(mm_ga_inv e).1, (mm_gd_inv (mm_ga_inv e).2).1⟩) rfl (by decide)
theorem v_Md_next (l : Launch) {own : String} {i n0 : Nat} (hl : Cond.methodLink own i yX12_next ∈ mm_tbl) (hn : 10 ≤ n0) : mm_cok l own n0 i (0, 2, 1, f_Md_next) := Or.inr (Or.inr ⟨rfl, yX12_next, cX12_next, 5, (some .int), 9, 12, TX12, 27, i_Md_next l, hn, by decide, by decide +kernel, rfl, fun _ _ _ e => (mm_gd_inv (mm_ga_inv e).2).2, hl, q_2407, q_2408, q_179, q_2409⟩)
def p_Md_job : mm_P := ([(0, .aload_n 0, 1, 0), (1, .iconst 0, 1, 0), (2, .putfield 1, 3, 0), (5, .aload_n 0, 1, 0), (6, .getfield 123, 3, 0), (9, .iconst 5, 1, 5), (10, .iaload, 1, 0), (11, .ifCond .ne 5, 3, 0), (14, .iconst (-1), 1, (-1)), (15, .ireturn, 1, 0), (16, .iload_n 1, 1, 0), (17, .tableswitch 98 0 6 #[43, 51, 59, 66, 74, 82, 90], 43, 0), (60, .aload_n 0, 1, 0), (61, .getfield 123, 3, 0), (64, .bipush 6, 2, 6), (66, .iaload, 1, 0), (67, .ireturn, 1, 0), (68, .aload_n 0, 1, 0), (69, .getfield 123, 3, 0), (72, .bipush 7, 2, 7), (74, .iaload, 1, 0), (75, .ireturn, 1, 0), (76, .aload_n 0, 1, 0), (77, .getfield 123, 3, 0), (80, .iconst 1, 1, 1), (81, .iaload, 1, 0), (82, .ireturn, 1, 0), (83, .aload_n 0, 1, 0), (84, .getfield 123, 3, 0), (87, .bipush 8, 2, 8), (89, .iaload, 1, 0), (90, .ireturn, 1, 0), (91, .aload_n 0, 1, 0), (92, .getfield 123, 3, 0), (95, .bipush 10, 2, 10), (97, .iaload, 1, 0), (98, .ireturn, 1, 0), (99, .aload_n 0, 1, 0), (100, .getfield 123, 3, 0), (103, .bipush 11, 2, 11), (105, .iaload, 1, 0), (106, .ireturn, 1, 0), (107, .aload_n 0, 1, 0), (108, .getfield 123, 3, 0), (111, .bipush 12, 2, 12), (113, .iaload, 1, 0), (114, .ireturn, 1, 0), (115, .iconst (-1), 1, (-1)), (116, .ireturn, 1, 0)], [(1, 12, 0, 0), (123, 12, 14, 4)], [], [], [], [(0, [0, 1])], [(17, [(0, 60), (1, 68), (2, 76), (3, 83), (4, 91), (5, 99), (6, 107)], 115)], 2)
def f_Md_job : mm_F := fun args h => mm_ga [1, 1] args (mm_gd 12 args h (mm_run p_Md_job (mm_fu + 1) 0 args [] h))
set_option maxRecDepth 100000 in
theorem e_Md_job_0 (f : Nat) (t : Nat) (v1 : Int32) (h : mm_H) : mm_run p_Md_job (f + 1) 0 [.ref t, .int v1] [] h =
  (mm_pf 12 0 (.int 0) h t).bind fun h1 =>
  (mm_gr 12 14 h1 t).bind fun r2 =>
  (mm_li h1 r2 5).bind fun x3 =>
  if x3 = 0 then
    some (some (.int (-1)), h1)
  else
    if v1 = 0 then
      (mm_gr 12 14 h1 t).bind fun r4 =>
      (mm_li h1 r4 6).bind fun x5 =>
      some (some (.int x5), h1)
    else if v1 = 1 then
      (mm_gr 12 14 h1 t).bind fun r6 =>
      (mm_li h1 r6 7).bind fun x7 =>
      some (some (.int x7), h1)
    else if v1 = 2 then
      (mm_gr 12 14 h1 t).bind fun r8 =>
      (mm_li h1 r8 1).bind fun x9 =>
      some (some (.int x9), h1)
    else if v1 = 3 then
      (mm_gr 12 14 h1 t).bind fun r10 =>
      (mm_li h1 r10 8).bind fun x11 =>
      some (some (.int x11), h1)
    else if v1 = 4 then
      (mm_gr 12 14 h1 t).bind fun r12 =>
      (mm_li h1 r12 10).bind fun x13 =>
      some (some (.int x13), h1)
    else if v1 = 5 then
      (mm_gr 12 14 h1 t).bind fun r14 =>
      (mm_li h1 r14 11).bind fun x15 =>
      some (some (.int x15), h1)
    else if v1 = 6 then
      (mm_gr 12 14 h1 t).bind fun r16 =>
      (mm_li h1 r16 12).bind fun x17 =>
      some (some (.int x17), h1)
    else 
      some (some (.int (-1)), h1) := rfl
theorem e_Md_job (t : Nat) (v1 : Int32) (h : mm_H) {fs : List Value} (hb : h t = some (.inr (12, fs))) : f_Md_job [.ref t, .int v1] h =
  (mm_pf 12 0 (.int 0) h t).bind fun h1 =>
  (mm_gr 12 14 h1 t).bind fun r2 =>
  (mm_li h1 r2 5).bind fun x3 =>
  if x3 = 0 then
    some (some (.int (-1)), h1)
  else
    if v1 = 0 then
      (mm_gr 12 14 h1 t).bind fun r4 =>
      (mm_li h1 r4 6).bind fun x5 =>
      some (some (.int x5), h1)
    else if v1 = 1 then
      (mm_gr 12 14 h1 t).bind fun r6 =>
      (mm_li h1 r6 7).bind fun x7 =>
      some (some (.int x7), h1)
    else if v1 = 2 then
      (mm_gr 12 14 h1 t).bind fun r8 =>
      (mm_li h1 r8 1).bind fun x9 =>
      some (some (.int x9), h1)
    else if v1 = 3 then
      (mm_gr 12 14 h1 t).bind fun r10 =>
      (mm_li h1 r10 8).bind fun x11 =>
      some (some (.int x11), h1)
    else if v1 = 4 then
      (mm_gr 12 14 h1 t).bind fun r12 =>
      (mm_li h1 r12 10).bind fun x13 =>
      some (some (.int x13), h1)
    else if v1 = 5 then
      (mm_gr 12 14 h1 t).bind fun r14 =>
      (mm_li h1 r14 11).bind fun x15 =>
      some (some (.int x15), h1)
    else if v1 = 6 then
      (mm_gr 12 14 h1 t).bind fun r16 =>
      (mm_li h1 r16 12).bind fun x17 =>
      some (some (.int x17), h1)
    else 
      some (some (.int (-1)), h1) := (mm_ga_is rfl).trans ((mm_gd_is hb).trans (e_Md_job_0 mm_fu t v1 h))
set_option maxRecDepth 100000 in
theorem i_Md_job (l : Launch) : mm_Imp l yX12_job cX12_job 2 (some .int) 1 f_Md_job := mm_imp l (P := p_Md_job) mm_cls_ok mm_sys_ok (by decide) (mm_Pok_of (List.forall_mem_cons.mpr ⟨k_X12_1, (List.forall_mem_cons.mpr ⟨k_X12_123, (fun _ h => absurd h List.not_mem_nil)⟩)⟩) (fun _ h => absurd h List.not_mem_nil) (fun _ h => absurd h List.not_mem_nil) (fun _ h => absurd h List.not_mem_nil)) (by decide +kernel) rfl (cats := [1, 1]) (fun as h r e => ⟨(mm_ga_inv e).1, (mm_gd_inv (mm_ga_inv e).2).1⟩) rfl (by decide)
theorem v_Md_job (l : Launch) {own : String} {i n0 : Nat} (hl : Cond.methodLink own i yX12_job ∈ mm_tbl) (hn : 2 ≤ n0) : mm_cok l own n0 i (0, 1, 1, f_Md_job) := Or.inr (Or.inr ⟨rfl, yX12_job, cX12_job, 2, (some .int), 1, 12, TX12, 27, i_Md_job l, hn, by decide, by decide +kernel, rfl, fun _ _ _ e => (mm_gd_inv (mm_ga_inv e).2).2, hl, q_2411, q_2412, q_179, q_2413⟩)
def p_Md_record : mm_P := ([(0, .aload_n 0, 1, 0), (1, .iconst 0, 1, 0), (2, .putfield 1, 3, 0), (5, .aload_n 0, 1, 0), (6, .getfield 123, 3, 0), (9, .iconst 5, 1, 5), (10, .iaload, 1, 0), (11, .ifCond .eq 27, 3, 0), (14, .iload_n 1, 1, 0), (15, .ifCond .lt 23, 3, 0), (18, .iload_n 1, 1, 0), (19, .aload_n 0, 1, 0), (20, .getfield 123, 3, 0), (23, .bipush 10, 2, 10), (25, .iaload, 1, 0), (26, .if_icmp .ge 12, 3, 0), (29, .iload_n 2, 1, 0), (30, .iconst 0, 1, 0), (31, .iconst 2, 1, 2), (32, .invokestatic 275, 3, 0), (35, .ifCond .ne 5, 3, 0), (38, .iconst (-1), 1, (-1)), (39, .ireturn, 1, 0), (40, .bipush 119, 2, 119), (42, .iconst 2, 1, 2), (43, .iload_n 1, 1, 0), (44, .imul, 1, 0), (45, .iadd, 1, 0), (46, .istore_n 3, 1, 0), (47, .iload_n 2, 1, 0), (48, .ifCond .ne 15, 3, 0), (51, .aload_n 0, 1, 0), (52, .getfield 123, 3, 0), (55, .iload_n 3, 1, 0), (56, .iaload, 1, 0), (57, .bipush 32, 2, 32), (59, .idiv, 1, 0), (60, .goto 28, 3, 0), (63, .iload_n 2, 1, 0), (64, .iconst 1, 1, 1), (65, .if_icmp .ne 15, 3, 0), (68, .aload_n 0, 1, 0), (69, .getfield 123, 3, 0), (72, .iload_n 3, 1, 0), (73, .iaload, 1, 0), (74, .bipush 32, 2, 32), (76, .irem, 1, 0), (77, .goto 11, 3, 0), (80, .aload_n 0, 1, 0), (81, .getfield 123, 3, 0), (84, .iload_n 3, 1, 0), (85, .iconst 1, 1, 1), (86, .iadd, 1, 0), (87, .iaload, 1, 0), (88, .ireturn, 1, 0)], [(1, 12, 0, 0), (123, 12, 14, 4)], [(275, 1, 3, 1, f_Md_within)], [], [], [(0, [0, 1, 2])], [], 2)
def f_Md_record : mm_F := fun args h => mm_ga [1, 1, 1] args (mm_gd 12 args h (mm_run p_Md_record (mm_fu + 1) 0 args [] h))
set_option maxRecDepth 100000 in
theorem e_Md_record_0 (f : Nat) (t : Nat) (v1 : Int32) (v2 : Int32) (h : mm_H) : mm_run p_Md_record (f + 1) 0 [.ref t, .int v1, .int v2] [] h =
  (mm_pf 12 0 (.int 0) h t).bind fun h1 =>
  (mm_gr 12 14 h1 t).bind fun r2 =>
  (mm_li h1 r2 5).bind fun x3 =>
  if x3 = 0 then
    some (some (.int (-1)), h1)
  else
    if v1 < 0 then
      some (some (.int (-1)), h1)
    else
      (mm_gr 12 14 h1 t).bind fun r4 =>
      (mm_li h1 r4 10).bind fun x5 =>
      if v1 < x5 then
        mm_ci (f_Md_within [.int v2, .int 0, .int 2] h1) fun x7 h6 =>
        if x7 = 0 then
          some (some (.int (-1)), h6)
        else
          if v2 = 0 then
            (mm_gr 12 14 h6 t).bind fun r8 =>
            (mm_li h6 r8 (119 + (2 * v1))).bind fun x9 =>
            some (some (.int (x9 / 32)), h6)
          else
            if v2 = 1 then
              (mm_gr 12 14 h6 t).bind fun r10 =>
              (mm_li h6 r10 (119 + (2 * v1))).bind fun x11 =>
              some (some (.int (mm_rem x11 32)), h6)
            else
              (mm_gr 12 14 h6 t).bind fun r12 =>
              (mm_li h6 r12 ((119 + (2 * v1)) + 1)).bind fun x13 =>
              some (some (.int x13), h6)
      else
        some (some (.int (-1)), h1) := rfl
theorem e_Md_record (t : Nat) (v1 : Int32) (v2 : Int32) (h : mm_H) {fs : List Value} (hb : h t = some (.inr (12, fs))) : f_Md_record [.ref t, .int v1, .int v2] h =
  (mm_pf 12 0 (.int 0) h t).bind fun h1 =>
  (mm_gr 12 14 h1 t).bind fun r2 =>
  (mm_li h1 r2 5).bind fun x3 =>
  if x3 = 0 then
    some (some (.int (-1)), h1)
  else
    if v1 < 0 then
      some (some (.int (-1)), h1)
    else
      (mm_gr 12 14 h1 t).bind fun r4 =>
      (mm_li h1 r4 10).bind fun x5 =>
      if v1 < x5 then
        mm_ci (f_Md_within [.int v2, .int 0, .int 2] h1) fun x7 h6 =>
        if x7 = 0 then
          some (some (.int (-1)), h6)
        else
          if v2 = 0 then
            (mm_gr 12 14 h6 t).bind fun r8 =>
            (mm_li h6 r8 (119 + (2 * v1))).bind fun x9 =>
            some (some (.int (x9 / 32)), h6)
          else
            if v2 = 1 then
              (mm_gr 12 14 h6 t).bind fun r10 =>
              (mm_li h6 r10 (119 + (2 * v1))).bind fun x11 =>
              some (some (.int (mm_rem x11 32)), h6)
            else
              (mm_gr 12 14 h6 t).bind fun r12 =>
              (mm_li h6 r12 ((119 + (2 * v1)) + 1)).bind fun x13 =>
              some (some (.int x13), h6)
      else
        some (some (.int (-1)), h1) := (mm_ga_is rfl).trans ((mm_gd_is hb).trans (e_Md_record_0 mm_fu t v1 v2 h))
set_option maxRecDepth 100000 in
theorem i_Md_record (l : Launch) : mm_Imp l yX12_record cX12_record 4 (some .int) 2 f_Md_record := mm_imp l (P := p_Md_record) mm_cls_ok mm_sys_ok (by decide) (mm_Pok_of (List.forall_mem_cons.mpr ⟨k_X12_1, (List.forall_mem_cons.mpr ⟨k_X12_123, (fun _ h => absurd h List.not_mem_nil)⟩)⟩) (List.forall_mem_cons.mpr ⟨v_Md_within l (Or.inl q_1769) (by decide), (fun _ h => absurd h List.not_mem_nil)⟩) (fun _ h => absurd h List.not_mem_nil) (fun _ h => absurd h List.not_mem_nil)) (by decide +kernel) rfl (cats := [1, 1, 1]) (fun as h r e => ⟨(mm_ga_inv e).1, (mm_gd_inv (mm_ga_inv e).2).1⟩) rfl (by decide)
theorem v_Md_record (l : Launch) {own : String} {i n0 : Nat} (hl : Cond.methodLink own i yX12_record ∈ mm_tbl) (hn : 3 ≤ n0) : mm_cok l own n0 i (0, 2, 1, f_Md_record) := Or.inr (Or.inr ⟨rfl, yX12_record, cX12_record, 4, (some .int), 2, 12, TX12, 27, i_Md_record l, hn, by decide, by decide +kernel, rfl, fun _ _ _ e => (mm_gd_inv (mm_ga_inv e).2).2, hl, q_2415, q_2416, q_179, q_2417⟩)
def p_Md_steps : mm_P := ([(0, .aload_n 0, 1, 0), (1, .iconst 0, 1, 0), (2, .putfield 1, 3, 0), (5, .aload_n 0, 1, 0), (6, .getfield 123, 3, 0), (9, .iconst 5, 1, 5), (10, .iaload, 1, 0), (11, .ifCond .ne 5, 3, 0), (14, .iconst (-1), 1, (-1)), (15, .ireturn, 1, 0), (16, .iconst 1, 1, 1), (17, .istore_n 1, 1, 0), (18, .iconst 0, 1, 0), (19, .istore_n 2, 1, 0), (20, .iload_n 2, 1, 0), (21, .aload_n 0, 1, 0), (22, .invokevirtual 268, 3, 0), (25, .if_icmp .ge 24, 3, 0), (28, .iload_n 1, 1, 0), (29, .aload_n 0, 1, 0), (30, .iconst 0, 1, 0), (31, .iload_n 2, 1, 0), (32, .aload_n 0, 1, 0), (33, .getfield 123, 3, 0), (36, .iconst 1, 1, 1), (37, .iaload, 1, 0), (38, .invokevirtual 347, 3, 0), (41, .iadd, 1, 0), (42, .istore_n 1, 1, 0), (43, .iinc 2 1, 3, 1), (46, .goto (-26), 3, 0), (49, .iload_n 1, 1, 0), (50, .ireturn, 1, 0)], [(1, 12, 0, 0), (123, 12, 14, 4)], [(268, 0, 0, 1, f_Md_indexes), (347, 0, 3, 1, f_Md_leftMany)], [], [], [(0, [0]), (20, [0, 1, 2])], [], 2)
def f_Md_steps : mm_F := fun args h => mm_ga [1] args (mm_gd 12 args h (mm_run p_Md_steps (mm_fu + 1) 0 args [] h))
set_option maxRecDepth 100000 in
theorem e_Md_steps_0 (f : Nat) (t : Nat) (h : mm_H) : mm_run p_Md_steps (f + 1) 0 [.ref t] [] h =
  (mm_pf 12 0 (.int 0) h t).bind fun h1 =>
  (mm_gr 12 14 h1 t).bind fun r2 =>
  (mm_li h1 r2 5).bind fun x3 =>
  if x3 = 0 then
    some (some (.int (-1)), h1)
  else
    mm_run p_Md_steps f 20 [.ref t, .int 1, .int 0] [] h1 := rfl
theorem e_Md_steps (t : Nat) (h : mm_H) {fs : List Value} (hb : h t = some (.inr (12, fs))) : f_Md_steps [.ref t] h =
  (mm_pf 12 0 (.int 0) h t).bind fun h1 =>
  (mm_gr 12 14 h1 t).bind fun r2 =>
  (mm_li h1 r2 5).bind fun x3 =>
  if x3 = 0 then
    some (some (.int (-1)), h1)
  else
    mm_run p_Md_steps mm_fu 20 [.ref t, .int 1, .int 0] [] h1 := (mm_ga_is rfl).trans ((mm_gd_is hb).trans (e_Md_steps_0 mm_fu t h))
set_option maxRecDepth 100000 in
theorem e_Md_steps_20 (f : Nat) (t : Nat) (v1 : Int32) (v2 : Int32) (h : mm_H) : mm_run p_Md_steps (f + 1) 20 [.ref t, .int v1, .int v2] [] h =
  mm_ci (f_Md_indexes [.ref t] h) fun x2 h1 =>
  if v2 < x2 then
    (mm_gr 12 14 h1 t).bind fun r3 =>
    (mm_li h1 r3 1).bind fun x4 =>
    mm_ci (f_Md_leftMany [.ref t, .int 0, .int v2, .int x4] h1) fun x6 h5 =>
    mm_run p_Md_steps f 20 [.ref t, .int (v1 + x6), .int (v2 + 1)] [] h5
  else
    some (some (.int v1), h1) := rfl
set_option maxRecDepth 100000 in
theorem i_Md_steps (l : Launch) : mm_Imp l yX12_steps cX12_steps 3 (some .int) 5 f_Md_steps := mm_imp l (P := p_Md_steps) mm_cls_ok mm_sys_ok (by decide) (mm_Pok_of (List.forall_mem_cons.mpr ⟨k_X12_1, (List.forall_mem_cons.mpr ⟨k_X12_123, (fun _ h => absurd h List.not_mem_nil)⟩)⟩) (List.forall_mem_cons.mpr ⟨v_Md_indexes l q_1741 (by decide), (List.forall_mem_cons.mpr ⟨v_Md_leftMany l q_2194 (by decide), (fun _ h => absurd h List.not_mem_nil)⟩)⟩) (fun _ h => absurd h List.not_mem_nil) (fun _ h => absurd h List.not_mem_nil)) (by decide +kernel) rfl (cats := [1]) (fun as h r e => ⟨(mm_ga_inv e).1, (mm_gd_inv (mm_ga_inv e).2).1⟩) rfl (by decide)
theorem v_Md_steps (l : Launch) {own : String} {i n0 : Nat} (hl : Cond.methodLink own i yX12_steps ∈ mm_tbl) (hn : 6 ≤ n0) : mm_cok l own n0 i (0, 0, 1, f_Md_steps) := Or.inr (Or.inr ⟨rfl, yX12_steps, cX12_steps, 3, (some .int), 5, 12, TX12, 27, i_Md_steps l, hn, by decide, by decide +kernel, rfl, fun _ _ _ e => (mm_gd_inv (mm_ga_inv e).2).2, hl, q_2419, q_2420, q_179, q_2421⟩)
def p_Md_foretells : mm_P := ([(0, .aload_n 0, 1, 0), (1, .iconst 0, 1, 0), (2, .sipush 8738, 3, 8738), (5, .sipush 514, 3, 514), (8, .invokevirtual 362, 3, 0), (11, .aload_n 0, 1, 0), (12, .sipush 8738, 3, 8738), (15, .invokevirtual 502, 3, 0), (18, .pop, 1, 0), (19, .return_, 1, 0)], [], [(362, 0, 3, 0, f_Md_copies), (502, 0, 1, 1, f_Md_resumed)], [], [], [(0, [0])], [], 0)
def f_Md_foretells : mm_F := fun args h => mm_ga [1] args (mm_gd 12 args h (mm_run p_Md_foretells (mm_fu + 1) 0 args [] h))
set_option maxRecDepth 100000 in
theorem e_Md_foretells_0 (f : Nat) (t : Nat) (h : mm_H) : mm_run p_Md_foretells (f + 1) 0 [.ref t] [] h =
  mm_cv (f_Md_copies [.ref t, .int 0, .int 8738, .int 514] h) fun h1 =>
  mm_ci (f_Md_resumed [.ref t, .int 8738] h1) fun x3 h2 =>
  some (none, h2) := rfl
theorem e_Md_foretells (t : Nat) (h : mm_H) {fs : List Value} (hb : h t = some (.inr (12, fs))) : f_Md_foretells [.ref t] h =
  mm_cv (f_Md_copies [.ref t, .int 0, .int 8738, .int 514] h) fun h1 =>
  mm_ci (f_Md_resumed [.ref t, .int 8738] h1) fun x3 h2 =>
  some (none, h2) := (mm_ga_is rfl).trans ((mm_gd_is hb).trans (e_Md_foretells_0 mm_fu t h))
set_option maxRecDepth 100000 in
theorem i_Md_foretells (l : Launch) : mm_Imp l yX12_foretells cX12_foretells 1 none 7 f_Md_foretells := mm_imp l (P := p_Md_foretells) mm_cls_ok mm_sys_ok (by decide) (mm_Pok_of (fun _ h => absurd h List.not_mem_nil) (List.forall_mem_cons.mpr ⟨v_Md_copies l q_2059 (by decide), (List.forall_mem_cons.mpr ⟨v_Md_resumed l q_2269 (by decide), (fun _ h => absurd h List.not_mem_nil)⟩)⟩) (fun _ h => absurd h List.not_mem_nil) (fun _ h => absurd h List.not_mem_nil)) (by decide +kernel) rfl (cats := [1]) (fun as h r e => ⟨(mm_ga_inv e).1, (mm_gd_inv (mm_ga_inv e).2).1⟩) rfl (by decide)
theorem v_Md_foretells (l : Launch) {own : String} {i n0 : Nat} (hl : Cond.methodLink own i yX12_foretells ∈ mm_tbl) (hn : 8 ≤ n0) : mm_cok l own n0 i (0, 0, 0, f_Md_foretells) := Or.inr (Or.inr ⟨rfl, yX12_foretells, cX12_foretells, 1, none, 7, 12, TX12, 27, i_Md_foretells l, hn, by decide, by decide +kernel, rfl, fun _ _ _ e => (mm_gd_inv (mm_ga_inv e).2).2, hl, q_2428, q_154, q_179, q_2429⟩)
def p_Md_after : mm_P := ([(0, .aload_n 0, 1, 0), (1, .iconst 0, 1, 0), (2, .putfield 1, 3, 0), (5, .iload_n 1, 1, 0), (6, .iconst 0, 1, 0), (7, .sipush 150, 3, 150), (10, .invokestatic 275, 3, 0), (13, .ifCond .eq 12, 3, 0), (16, .iload_n 2, 1, 0), (17, .iconst 0, 1, 0), (18, .iconst 3, 1, 3), (19, .invokestatic 275, 3, 0), (22, .ifCond .ne 6, 3, 0), (25, .bipush (-2), 2, (-2)), (27, .ireturn, 1, 0), (28, .aload_n 0, 1, 0), (29, .invokevirtual 544, 3, 0), (32, .aload_n 0, 1, 0), (33, .sipush 8738, 3, 8738), (36, .iload_n 1, 1, 0), (37, .invokevirtual 511, 3, 0), (40, .pop, 1, 0), (41, .aload_n 0, 1, 0), (42, .getfield 123, 3, 0), (45, .sipush 8743, 3, 8743), (48, .iaload, 1, 0), (49, .iconst 1, 1, 1), (50, .if_icmp .ne 7, 3, 0), (53, .iconst 1, 1, 1), (54, .goto 4, 3, 0), (57, .iconst 0, 1, 0), (58, .istore_n 3, 1, 0), (59, .iload_n 2, 1, 0), (60, .tableswitch 62 0 2 #[28, 45, 54], 28, 0), (88, .iload_n 3, 1, 0), (89, .ifCond .eq 14, 3, 0), (92, .aload_n 0, 1, 0), (93, .getfield 123, 3, 0), (96, .sipush 8744, 3, 8744), (99, .iaload, 1, 0), (100, .goto 4, 3, 0), (103, .iconst (-1), 1, (-1)), (104, .ireturn, 1, 0), (105, .aload_n 0, 1, 0), (106, .getfield 123, 3, 0), (109, .sipush 8741, 3, 8741), (112, .iaload, 1, 0), (113, .ireturn, 1, 0), (114, .aload_n 0, 1, 0), (115, .sipush 8738, 3, 8738), (118, .invokevirtual 547, 3, 0), (121, .ireturn, 1, 0), (122, .iload_n 3, 1, 0), (123, .ifCond .eq 14, 3, 0), (126, .aload_n 0, 1, 0), (127, .getfield 123, 3, 0), (130, .sipush 8748, 3, 8748), (133, .iaload, 1, 0), (134, .goto 4, 3, 0), (137, .iconst 0, 1, 0), (138, .ireturn, 1, 0)], [(1, 12, 0, 0), (123, 12, 14, 4)], [(275, 1, 3, 1, f_Md_within), (511, 0, 2, 1, f_Md_goes), (544, 0, 0, 0, f_Md_foretells), (547, 0, 1, 1, f_Md_allLeaves)], [], [], [(0, [0, 1, 2])], [(60, [(0, 88), (1, 105), (2, 114)], 122)], 2)
def f_Md_after : mm_F := fun args h => mm_ga [1, 1, 1] args (mm_gd 12 args h (mm_run p_Md_after (mm_fu + 1) 0 args [] h))
set_option maxRecDepth 100000 in
theorem e_Md_after_0 (f : Nat) (t : Nat) (v1 : Int32) (v2 : Int32) (h : mm_H) : mm_run p_Md_after (f + 1) 0 [.ref t, .int v1, .int v2] [] h =
  (mm_pf 12 0 (.int 0) h t).bind fun h1 =>
  mm_ci (f_Md_within [.int v1, .int 0, .int 150] h1) fun x3 h2 =>
  if x3 = 0 then
    some (some (.int (-2)), h2)
  else
    mm_ci (f_Md_within [.int v2, .int 0, .int 3] h2) fun x5 h4 =>
    if x5 = 0 then
      some (some (.int (-2)), h4)
    else
      mm_cv (f_Md_foretells [.ref t] h4) fun h6 =>
      mm_ci (f_Md_goes [.ref t, .int 8738, .int v1] h6) fun x8 h7 =>
      (mm_gr 12 14 h7 t).bind fun r9 =>
      (mm_li h7 r9 8743).bind fun x10 =>
      if x10 = 1 then
        if v2 = 0 then
          (mm_gr 12 14 h7 t).bind fun r11 =>
          (mm_li h7 r11 8744).bind fun x12 =>
          some (some (.int x12), h7)
        else if v2 = 1 then
          (mm_gr 12 14 h7 t).bind fun r13 =>
          (mm_li h7 r13 8741).bind fun x14 =>
          some (some (.int x14), h7)
        else if v2 = 2 then
          mm_ci (f_Md_allLeaves [.ref t, .int 8738] h7) fun x16 h15 =>
          some (some (.int x16), h15)
        else 
          (mm_gr 12 14 h7 t).bind fun r17 =>
          (mm_li h7 r17 8748).bind fun x18 =>
          some (some (.int x18), h7)
      else
        if v2 = 0 then
          some (some (.int (-1)), h7)
        else if v2 = 1 then
          (mm_gr 12 14 h7 t).bind fun r19 =>
          (mm_li h7 r19 8741).bind fun x20 =>
          some (some (.int x20), h7)
        else if v2 = 2 then
          mm_ci (f_Md_allLeaves [.ref t, .int 8738] h7) fun x22 h21 =>
          some (some (.int x22), h21)
        else 
          some (some (.int 0), h7) := rfl
theorem e_Md_after (t : Nat) (v1 : Int32) (v2 : Int32) (h : mm_H) {fs : List Value} (hb : h t = some (.inr (12, fs))) : f_Md_after [.ref t, .int v1, .int v2] h =
  (mm_pf 12 0 (.int 0) h t).bind fun h1 =>
  mm_ci (f_Md_within [.int v1, .int 0, .int 150] h1) fun x3 h2 =>
  if x3 = 0 then
    some (some (.int (-2)), h2)
  else
    mm_ci (f_Md_within [.int v2, .int 0, .int 3] h2) fun x5 h4 =>
    if x5 = 0 then
      some (some (.int (-2)), h4)
    else
      mm_cv (f_Md_foretells [.ref t] h4) fun h6 =>
      mm_ci (f_Md_goes [.ref t, .int 8738, .int v1] h6) fun x8 h7 =>
      (mm_gr 12 14 h7 t).bind fun r9 =>
      (mm_li h7 r9 8743).bind fun x10 =>
      if x10 = 1 then
        if v2 = 0 then
          (mm_gr 12 14 h7 t).bind fun r11 =>
          (mm_li h7 r11 8744).bind fun x12 =>
          some (some (.int x12), h7)
        else if v2 = 1 then
          (mm_gr 12 14 h7 t).bind fun r13 =>
          (mm_li h7 r13 8741).bind fun x14 =>
          some (some (.int x14), h7)
        else if v2 = 2 then
          mm_ci (f_Md_allLeaves [.ref t, .int 8738] h7) fun x16 h15 =>
          some (some (.int x16), h15)
        else 
          (mm_gr 12 14 h7 t).bind fun r17 =>
          (mm_li h7 r17 8748).bind fun x18 =>
          some (some (.int x18), h7)
      else
        if v2 = 0 then
          some (some (.int (-1)), h7)
        else if v2 = 1 then
          (mm_gr 12 14 h7 t).bind fun r19 =>
          (mm_li h7 r19 8741).bind fun x20 =>
          some (some (.int x20), h7)
        else if v2 = 2 then
          mm_ci (f_Md_allLeaves [.ref t, .int 8738] h7) fun x22 h21 =>
          some (some (.int x22), h21)
        else 
          some (some (.int 0), h7) := (mm_ga_is rfl).trans ((mm_gd_is hb).trans (e_Md_after_0 mm_fu t v1 v2 h))
set_option maxRecDepth 100000 in
theorem i_Md_after (l : Launch) : mm_Imp l yX12_after cX12_after 4 (some .int) 11 f_Md_after := mm_imp l (P := p_Md_after) mm_cls_ok mm_sys_ok (by decide) (mm_Pok_of (List.forall_mem_cons.mpr ⟨k_X12_1, (List.forall_mem_cons.mpr ⟨k_X12_123, (fun _ h => absurd h List.not_mem_nil)⟩)⟩) (List.forall_mem_cons.mpr ⟨v_Md_within l (Or.inl q_1769) (by decide), (List.forall_mem_cons.mpr ⟨v_Md_goes l q_2297 (by decide), (List.forall_mem_cons.mpr ⟨v_Md_foretells l q_2426 (by decide), (List.forall_mem_cons.mpr ⟨v_Md_allLeaves l q_2430 (by decide), (fun _ h => absurd h List.not_mem_nil)⟩)⟩)⟩)⟩) (fun _ h => absurd h List.not_mem_nil) (fun _ h => absurd h List.not_mem_nil)) (by decide +kernel) rfl (cats := [1, 1, 1]) (fun as h r e => ⟨(mm_ga_inv e).1, (mm_gd_inv (mm_ga_inv e).2).1⟩) rfl (by decide)
theorem v_Md_after (l : Launch) {own : String} {i n0 : Nat} (hl : Cond.methodLink own i yX12_after ∈ mm_tbl) (hn : 12 ≤ n0) : mm_cok l own n0 i (0, 2, 1, f_Md_after) := Or.inr (Or.inr ⟨rfl, yX12_after, cX12_after, 4, (some .int), 11, 12, TX12, 27, i_Md_after l, hn, by decide, by decide +kernel, rfl, fun _ _ _ e => (mm_gd_inv (mm_ga_inv e).2).2, hl, q_2423, q_2424, q_179, q_2425⟩)
def p_Md_during : mm_P := ([(0, .aload_n 0, 1, 0), (1, .iconst 0, 1, 0), (2, .putfield 1, 3, 0), (5, .iload_n 1, 1, 0), (6, .iconst 0, 1, 0), (7, .sipush 150, 3, 150), (10, .invokestatic 275, 3, 0), (13, .ifCond .eq 35, 3, 0), (16, .iload_n 2, 1, 0), (17, .invokestatic 461, 3, 0), (20, .ifCond .eq 28, 3, 0), (23, .iload_n 3, 1, 0), (24, .invokestatic 461, 3, 0), (27, .ifCond .eq 21, 3, 0), (30, .iload 4, 2, 0), (32, .invokestatic 461, 3, 0), (35, .ifCond .eq 13, 3, 0), (38, .iload 5, 2, 0), (40, .iconst 0, 1, 0), (41, .iconst 2, 1, 2), (42, .invokestatic 275, 3, 0), (45, .ifCond .ne 6, 3, 0), (48, .bipush (-2), 2, (-2)), (50, .ireturn, 1, 0), (51, .aload_n 0, 1, 0), (52, .invokevirtual 544, 3, 0), (55, .aload_n 0, 1, 0), (56, .sipush 8738, 3, 8738), (59, .iload_n 1, 1, 0), (60, .invokevirtual 511, 3, 0), (63, .pop, 1, 0), (64, .aload_n 0, 1, 0), (65, .sipush 8738, 3, 8738), (68, .iload_n 2, 1, 0), (69, .iload_n 3, 1, 0), (70, .iload 4, 2, 0), (72, .invokevirtual 464, 3, 0), (75, .istore 6, 2, 0), (77, .aload_n 0, 1, 0), (78, .sipush 8738, 3, 8738), (81, .sipush 150, 3, 150), (84, .invokevirtual 511, 3, 0), (87, .pop, 1, 0), (88, .iload 5, 2, 0), (90, .ifCond .ne 8, 3, 0), (93, .iload 6, 2, 0), (95, .goto 27, 3, 0), (98, .iload 5, 2, 0), (100, .iconst 1, 1, 1), (101, .if_icmp .ne 14, 3, 0), (104, .aload_n 0, 1, 0), (105, .getfield 123, 3, 0), (108, .sipush 8741, 3, 8741), (111, .iaload, 1, 0), (112, .goto 10, 3, 0), (115, .aload_n 0, 1, 0), (116, .sipush 8738, 3, 8738), (119, .invokevirtual 547, 3, 0), (122, .ireturn, 1, 0)], [(1, 12, 0, 0), (123, 12, 14, 4)], [(275, 1, 3, 1, f_Md_within), (461, 1, 1, 1, f_Md_isValue), (464, 0, 4, 1, f_Md_inserted), (511, 0, 2, 1, f_Md_goes), (544, 0, 0, 0, f_Md_foretells), (547, 0, 1, 1, f_Md_allLeaves)], [], [], [(0, [0, 1, 2, 3, 4, 5])], [], 2)
def f_Md_during : mm_F := fun args h => mm_ga [1, 1, 1, 1, 1, 1] args (mm_gd 12 args h (mm_run p_Md_during (mm_fu + 1) 0 args [] h))
set_option maxRecDepth 100000 in
theorem e_Md_during_0 (f : Nat) (t : Nat) (v1 : Int32) (v2 : Int32) (v3 : Int32) (v4 : Int32) (v5 : Int32) (h : mm_H) : mm_run p_Md_during (f + 1) 0 [.ref t, .int v1, .int v2, .int v3, .int v4, .int v5] [] h =
  (mm_pf 12 0 (.int 0) h t).bind fun h1 =>
  mm_ci (f_Md_within [.int v1, .int 0, .int 150] h1) fun x3 h2 =>
  if x3 = 0 then
    some (some (.int (-2)), h2)
  else
    mm_ci (f_Md_isValue [.int v2] h2) fun x5 h4 =>
    if x5 = 0 then
      some (some (.int (-2)), h4)
    else
      mm_ci (f_Md_isValue [.int v3] h4) fun x7 h6 =>
      if x7 = 0 then
        some (some (.int (-2)), h6)
      else
        mm_ci (f_Md_isValue [.int v4] h6) fun x9 h8 =>
        if x9 = 0 then
          some (some (.int (-2)), h8)
        else
          mm_ci (f_Md_within [.int v5, .int 0, .int 2] h8) fun x11 h10 =>
          if x11 = 0 then
            some (some (.int (-2)), h10)
          else
            mm_cv (f_Md_foretells [.ref t] h10) fun h12 =>
            mm_ci (f_Md_goes [.ref t, .int 8738, .int v1] h12) fun x14 h13 =>
            mm_ci (f_Md_inserted [.ref t, .int 8738, .int v2, .int v3, .int v4] h13) fun x16 h15 =>
            mm_ci (f_Md_goes [.ref t, .int 8738, .int 150] h15) fun x18 h17 =>
            if v5 = 0 then
              some (some (.int x16), h17)
            else
              if v5 = 1 then
                (mm_gr 12 14 h17 t).bind fun r19 =>
                (mm_li h17 r19 8741).bind fun x20 =>
                some (some (.int x20), h17)
              else
                mm_ci (f_Md_allLeaves [.ref t, .int 8738] h17) fun x22 h21 =>
                some (some (.int x22), h21) := rfl
theorem e_Md_during (t : Nat) (v1 : Int32) (v2 : Int32) (v3 : Int32) (v4 : Int32) (v5 : Int32) (h : mm_H) {fs : List Value} (hb : h t = some (.inr (12, fs))) : f_Md_during [.ref t, .int v1, .int v2, .int v3, .int v4, .int v5] h =
  (mm_pf 12 0 (.int 0) h t).bind fun h1 =>
  mm_ci (f_Md_within [.int v1, .int 0, .int 150] h1) fun x3 h2 =>
  if x3 = 0 then
    some (some (.int (-2)), h2)
  else
    mm_ci (f_Md_isValue [.int v2] h2) fun x5 h4 =>
    if x5 = 0 then
      some (some (.int (-2)), h4)
    else
      mm_ci (f_Md_isValue [.int v3] h4) fun x7 h6 =>
      if x7 = 0 then
        some (some (.int (-2)), h6)
      else
        mm_ci (f_Md_isValue [.int v4] h6) fun x9 h8 =>
        if x9 = 0 then
          some (some (.int (-2)), h8)
        else
          mm_ci (f_Md_within [.int v5, .int 0, .int 2] h8) fun x11 h10 =>
          if x11 = 0 then
            some (some (.int (-2)), h10)
          else
            mm_cv (f_Md_foretells [.ref t] h10) fun h12 =>
            mm_ci (f_Md_goes [.ref t, .int 8738, .int v1] h12) fun x14 h13 =>
            mm_ci (f_Md_inserted [.ref t, .int 8738, .int v2, .int v3, .int v4] h13) fun x16 h15 =>
            mm_ci (f_Md_goes [.ref t, .int 8738, .int 150] h15) fun x18 h17 =>
            if v5 = 0 then
              some (some (.int x16), h17)
            else
              if v5 = 1 then
                (mm_gr 12 14 h17 t).bind fun r19 =>
                (mm_li h17 r19 8741).bind fun x20 =>
                some (some (.int x20), h17)
              else
                mm_ci (f_Md_allLeaves [.ref t, .int 8738] h17) fun x22 h21 =>
                some (some (.int x22), h21) := (mm_ga_is rfl).trans ((mm_gd_is hb).trans (e_Md_during_0 mm_fu t v1 v2 v3 v4 v5 h))
set_option maxRecDepth 100000 in
theorem i_Md_during (l : Launch) : mm_Imp l yX12_during cX12_during 7 (some .int) 11 f_Md_during := mm_imp l (P := p_Md_during) mm_cls_ok mm_sys_ok (by decide) (mm_Pok_of (List.forall_mem_cons.mpr ⟨k_X12_1, (List.forall_mem_cons.mpr ⟨k_X12_123, (fun _ h => absurd h List.not_mem_nil)⟩)⟩) (List.forall_mem_cons.mpr ⟨v_Md_within l (Or.inl q_1769) (by decide), (List.forall_mem_cons.mpr ⟨v_Md_isValue l (Or.inl q_2063) (by decide), (List.forall_mem_cons.mpr ⟨v_Md_inserted l q_2066 (by decide), (List.forall_mem_cons.mpr ⟨v_Md_goes l q_2297 (by decide), (List.forall_mem_cons.mpr ⟨v_Md_foretells l q_2426 (by decide), (List.forall_mem_cons.mpr ⟨v_Md_allLeaves l q_2430 (by decide), (fun _ h => absurd h List.not_mem_nil)⟩)⟩)⟩)⟩)⟩)⟩) (fun _ h => absurd h List.not_mem_nil) (fun _ h => absurd h List.not_mem_nil)) (by decide +kernel) rfl (cats := [1, 1, 1, 1, 1, 1]) (fun as h r e => ⟨(mm_ga_inv e).1, (mm_gd_inv (mm_ga_inv e).2).1⟩) rfl (by decide)
theorem v_Md_during (l : Launch) {own : String} {i n0 : Nat} (hl : Cond.methodLink own i yX12_during ∈ mm_tbl) (hn : 12 ≤ n0) : mm_cok l own n0 i (0, 5, 1, f_Md_during) := Or.inr (Or.inr ⟨rfl, yX12_during, cX12_during, 7, (some .int), 11, 12, TX12, 27, i_Md_during l, hn, by decide, by decide +kernel, rfl, fun _ _ _ e => (mm_gd_inv (mm_ga_inv e).2).2, hl, q_2435, q_2436, q_179, q_2437⟩)
def p_Md_crashes : mm_P := ([(0, .aload_n 0, 1, 0), (1, .iconst 0, 1, 0), (2, .putfield 1, 3, 0), (5, .iload_n 1, 1, 0), (6, .iconst 1, 1, 1), (7, .bipush 50, 2, 50), (9, .invokestatic 275, 3, 0), (12, .ifCond .eq 22, 3, 0), (15, .iload_n 2, 1, 0), (16, .iconst 1, 1, 1), (17, .bipush 8, 2, 8), (19, .invokestatic 275, 3, 0), (22, .ifCond .eq 12, 3, 0), (25, .aload_n 0, 1, 0), (26, .getfield 123, 3, 0), (29, .iconst 5, 1, 5), (30, .iaload, 1, 0), (31, .ifCond .ne 5, 3, 0), (34, .iconst (-1), 1, (-1)), (35, .ireturn, 1, 0), (36, .aload_n 0, 1, 0), (37, .invokevirtual 544, 3, 0), (40, .aload_n 0, 1, 0), (41, .getfield 402, 3, 0), (44, .istore_n 3, 1, 0), (45, .aload_n 0, 1, 0), (46, .iload_n 2, 1, 0), (47, .putfield 402, 3, 0), (50, .iconst 0, 1, 0), (51, .istore 4, 2, 0), (53, .iload 4, 2, 0), (55, .sipush 200, 3, 200), (58, .if_icmp .ge 52, 3, 0), (61, .aload_n 0, 1, 0), (62, .getfield 123, 3, 0), (65, .sipush 8743, 3, 8743), (68, .iaload, 1, 0), (69, .iconst 1, 1, 1), (70, .if_icmp .ne 40, 3, 0), (73, .aload_n 0, 1, 0), (74, .sipush 8738, 3, 8738), (77, .invokevirtual 493, 3, 0), (80, .pop, 1, 0), (81, .iinc 4 1, 3, 1), (84, .iload 4, 2, 0), (86, .iload_n 1, 1, 0), (87, .irem, 1, 0), (88, .ifCond .ne (-35), 3, 0), (91, .aload_n 0, 1, 0), (92, .sipush 8738, 3, 8738), (95, .invokevirtual 499, 3, 0), (98, .pop, 1, 0), (99, .aload_n 0, 1, 0), (100, .sipush 8738, 3, 8738), (103, .invokevirtual 502, 3, 0), (106, .pop, 1, 0), (107, .goto (-54), 3, 0), (110, .aload_n 0, 1, 0), (111, .iload_n 3, 1, 0), (112, .putfield 402, 3, 0), (115, .aload_n 0, 1, 0), (116, .getfield 123, 3, 0), (119, .sipush 8743, 3, 8743), (122, .iaload, 1, 0), (123, .iconst 1, 1, 1), (124, .if_icmp .ne 7, 3, 0), (127, .iconst (-1), 1, (-1)), (128, .goto 5, 3, 0), (131, .iload 4, 2, 0), (133, .ireturn, 1, 0)], [(1, 12, 0, 0), (123, 12, 14, 4), (402, 12, 16, 0)], [(275, 1, 3, 1, f_Md_within), (493, 0, 1, 1, f_Md_stepped), (499, 0, 1, 1, f_Md_crashed), (502, 0, 1, 1, f_Md_resumed), (544, 0, 0, 0, f_Md_foretells)], [], [], [(0, [0, 1, 2]), (53, [0, 1, 3, 4])], [], 2)
def f_Md_crashes : mm_F := fun args h => mm_ga [1, 1, 1] args (mm_gd 12 args h (mm_run p_Md_crashes (mm_fu + 1) 0 args [] h))
set_option maxRecDepth 100000 in
theorem e_Md_crashes_0 (f : Nat) (t : Nat) (v1 : Int32) (v2 : Int32) (h : mm_H) : mm_run p_Md_crashes (f + 1) 0 [.ref t, .int v1, .int v2] [] h =
  (mm_pf 12 0 (.int 0) h t).bind fun h1 =>
  mm_ci (f_Md_within [.int v1, .int 1, .int 50] h1) fun x3 h2 =>
  if x3 = 0 then
    some (some (.int (-1)), h2)
  else
    mm_ci (f_Md_within [.int v2, .int 1, .int 8] h2) fun x5 h4 =>
    if x5 = 0 then
      some (some (.int (-1)), h4)
    else
      (mm_gr 12 14 h4 t).bind fun r6 =>
      (mm_li h4 r6 5).bind fun x7 =>
      if x7 = 0 then
        some (some (.int (-1)), h4)
      else
        mm_cv (f_Md_foretells [.ref t] h4) fun h8 =>
        (mm_gi 12 16 h8 t).bind fun x9 =>
        (mm_pf 12 16 (.int v2) h8 t).bind fun h10 =>
        mm_run p_Md_crashes f 53 [.ref t, .int v1, .int x9, .int 0] [] h10 := rfl
theorem e_Md_crashes (t : Nat) (v1 : Int32) (v2 : Int32) (h : mm_H) {fs : List Value} (hb : h t = some (.inr (12, fs))) : f_Md_crashes [.ref t, .int v1, .int v2] h =
  (mm_pf 12 0 (.int 0) h t).bind fun h1 =>
  mm_ci (f_Md_within [.int v1, .int 1, .int 50] h1) fun x3 h2 =>
  if x3 = 0 then
    some (some (.int (-1)), h2)
  else
    mm_ci (f_Md_within [.int v2, .int 1, .int 8] h2) fun x5 h4 =>
    if x5 = 0 then
      some (some (.int (-1)), h4)
    else
      (mm_gr 12 14 h4 t).bind fun r6 =>
      (mm_li h4 r6 5).bind fun x7 =>
      if x7 = 0 then
        some (some (.int (-1)), h4)
      else
        mm_cv (f_Md_foretells [.ref t] h4) fun h8 =>
        (mm_gi 12 16 h8 t).bind fun x9 =>
        (mm_pf 12 16 (.int v2) h8 t).bind fun h10 =>
        mm_run p_Md_crashes mm_fu 53 [.ref t, .int v1, .int x9, .int 0] [] h10 := (mm_ga_is rfl).trans ((mm_gd_is hb).trans (e_Md_crashes_0 mm_fu t v1 v2 h))
set_option maxRecDepth 100000 in
theorem e_Md_crashes_53 (f : Nat) (t : Nat) (v1 : Int32) (v3 : Int32) (v4 : Int32) (h : mm_H) : mm_run p_Md_crashes (f + 1) 53 [.ref t, .int v1, .int v3, .int v4] [] h =
  if v4 < 200 then
    (mm_gr 12 14 h t).bind fun r1 =>
    (mm_li h r1 8743).bind fun x2 =>
    if x2 = 1 then
      mm_ci (f_Md_stepped [.ref t, .int 8738] h) fun x4 h3 =>
      if v1 = 0 then none else
      if (mm_rem (v4 + 1) v1) = 0 then
        mm_ci (f_Md_crashed [.ref t, .int 8738] h3) fun x6 h5 =>
        mm_ci (f_Md_resumed [.ref t, .int 8738] h5) fun x8 h7 =>
        mm_run p_Md_crashes f 53 [.ref t, .int v1, .int v3, .int (v4 + 1)] [] h7
      else
        mm_run p_Md_crashes f 53 [.ref t, .int v1, .int v3, .int (v4 + 1)] [] h3
    else
      (mm_pf 12 16 (.int v3) h t).bind fun h9 =>
      (mm_gr 12 14 h9 t).bind fun r10 =>
      (mm_li h9 r10 8743).bind fun x11 =>
      if x11 = 1 then
        some (some (.int (-1)), h9)
      else
        some (some (.int v4), h9)
  else
    (mm_pf 12 16 (.int v3) h t).bind fun h12 =>
    (mm_gr 12 14 h12 t).bind fun r13 =>
    (mm_li h12 r13 8743).bind fun x14 =>
    if x14 = 1 then
      some (some (.int (-1)), h12)
    else
      some (some (.int v4), h12) := rfl
set_option maxRecDepth 100000 in
theorem i_Md_crashes (l : Launch) : mm_Imp l yX12_crashes cX12_crashes 5 (some .int) 10 f_Md_crashes := mm_imp l (P := p_Md_crashes) mm_cls_ok mm_sys_ok (by decide) (mm_Pok_of (List.forall_mem_cons.mpr ⟨k_X12_1, (List.forall_mem_cons.mpr ⟨k_X12_123, (List.forall_mem_cons.mpr ⟨k_X12_402, (fun _ h => absurd h List.not_mem_nil)⟩)⟩)⟩) (List.forall_mem_cons.mpr ⟨v_Md_within l (Or.inl q_1769) (by decide), (List.forall_mem_cons.mpr ⟨v_Md_stepped l q_2221 (by decide), (List.forall_mem_cons.mpr ⟨v_Md_crashed l q_2261 (by decide), (List.forall_mem_cons.mpr ⟨v_Md_resumed l q_2269 (by decide), (List.forall_mem_cons.mpr ⟨v_Md_foretells l q_2426 (by decide), (fun _ h => absurd h List.not_mem_nil)⟩)⟩)⟩)⟩)⟩) (fun _ h => absurd h List.not_mem_nil) (fun _ h => absurd h List.not_mem_nil)) (by decide +kernel) rfl (cats := [1, 1, 1]) (fun as h r e => ⟨(mm_ga_inv e).1, (mm_gd_inv (mm_ga_inv e).2).1⟩) rfl (by decide)
theorem v_Md_crashes (l : Launch) {own : String} {i n0 : Nat} (hl : Cond.methodLink own i yX12_crashes ∈ mm_tbl) (hn : 11 ≤ n0) : mm_cok l own n0 i (0, 2, 1, f_Md_crashes) := Or.inr (Or.inr ⟨rfl, yX12_crashes, cX12_crashes, 5, (some .int), 10, 12, TX12, 27, i_Md_crashes l, hn, by decide, by decide +kernel, rfl, fun _ _ _ e => (mm_gd_inv (mm_ga_inv e).2).2, hl, q_2439, q_2440, q_179, q_2441⟩)
def p_Md_queued : mm_P := ([(0, .aload_n 0, 1, 0), (1, .iconst 0, 1, 0), (2, .invokevirtual 356, 3, 0), (5, .istore_n 2, 1, 0), (6, .iconst 0, 1, 0), (7, .istore_n 3, 1, 0), (8, .iconst 0, 1, 0), (9, .istore 4, 2, 0), (11, .iload 4, 2, 0), (13, .bipush 30, 2, 30), (15, .if_icmp .ge 68, 3, 0), (18, .iconst 0, 1, 0), (19, .istore 5, 2, 0), (21, .iload 5, 2, 0), (23, .aload_n 0, 1, 0), (24, .iconst 0, 1, 0), (25, .iload_n 1, 1, 0), (26, .invokevirtual 311, 3, 0), (29, .if_icmp .ge 48, 3, 0), (32, .aload_n 0, 1, 0), (33, .iconst 0, 1, 0), (34, .iload_n 1, 1, 0), (35, .iload 5, 2, 0), (37, .invokevirtual 344, 3, 0), (40, .iload 4, 2, 0), (42, .if_icmp .ne 29, 3, 0), (45, .iload_n 2, 1, 0), (46, .iload 4, 2, 0), (48, .invokestatic 282, 3, 0), (51, .ifCond .eq 20, 3, 0), (54, .aload_n 0, 1, 0), (55, .getfield 133, 3, 0), (58, .iload_n 3, 1, 0), (59, .aload_n 0, 1, 0), (60, .iconst 0, 1, 0), (61, .iload_n 1, 1, 0), (62, .iload 5, 2, 0), (64, .invokevirtual 308, 3, 0), (67, .iastore, 1, 0), (68, .iinc 3 1, 3, 1), (71, .iinc 5 1, 3, 1), (74, .goto (-53), 3, 0), (77, .iinc 4 1, 3, 1), (80, .goto (-69), 3, 0), (83, .iload_n 3, 1, 0), (84, .ireturn, 1, 0)], [(133, 12, 24, 4)], [(282, 1, 2, 1, f_Md_has), (308, 0, 3, 1, f_Md_entryAt), (311, 0, 2, 1, f_Md_entries), (344, 0, 3, 1, f_Md_rowAt), (356, 0, 1, 1, f_Md_chosenBy)], [], [], [(0, [0, 1]), (11, [0, 1, 2, 3, 4]), (21, [0, 1, 2, 3, 4, 5])], [], 2)
def f_Md_queued : mm_F := fun args h => mm_ga [1, 1] args (mm_gd 12 args h (mm_run p_Md_queued (mm_fu + 1) 0 args [] h))
set_option maxRecDepth 100000 in
theorem e_Md_queued_0 (f : Nat) (t : Nat) (v1 : Int32) (h : mm_H) : mm_run p_Md_queued (f + 1) 0 [.ref t, .int v1] [] h =
  mm_ci (f_Md_chosenBy [.ref t, .int 0] h) fun x2 h1 =>
  mm_run p_Md_queued f 11 [.ref t, .int v1, .int x2, .int 0, .int 0] [] h1 := rfl
theorem e_Md_queued (t : Nat) (v1 : Int32) (h : mm_H) {fs : List Value} (hb : h t = some (.inr (12, fs))) : f_Md_queued [.ref t, .int v1] h =
  mm_ci (f_Md_chosenBy [.ref t, .int 0] h) fun x2 h1 =>
  mm_run p_Md_queued mm_fu 11 [.ref t, .int v1, .int x2, .int 0, .int 0] [] h1 := (mm_ga_is rfl).trans ((mm_gd_is hb).trans (e_Md_queued_0 mm_fu t v1 h))
set_option maxRecDepth 100000 in
theorem e_Md_queued_11 (f : Nat) (t : Nat) (v1 : Int32) (v2 : Int32) (v3 : Int32) (v4 : Int32) (h : mm_H) : mm_run p_Md_queued (f + 1) 11 [.ref t, .int v1, .int v2, .int v3, .int v4] [] h =
  if v4 < 30 then
    mm_run p_Md_queued f 21 [.ref t, .int v1, .int v2, .int v3, .int v4, .int 0] [] h
  else
    some (some (.int v3), h) := rfl
set_option maxRecDepth 100000 in
theorem e_Md_queued_21 (f : Nat) (t : Nat) (v1 : Int32) (v2 : Int32) (v3 : Int32) (v4 : Int32) (v5 : Int32) (h : mm_H) : mm_run p_Md_queued (f + 1) 21 [.ref t, .int v1, .int v2, .int v3, .int v4, .int v5] [] h =
  mm_ci (f_Md_entries [.ref t, .int 0, .int v1] h) fun x2 h1 =>
  if v5 < x2 then
    mm_ci (f_Md_rowAt [.ref t, .int 0, .int v1, .int v5] h1) fun x4 h3 =>
    if x4 = v4 then
      mm_ci (f_Md_has [.int v2, .int v4] h3) fun x6 h5 =>
      if x6 = 0 then
        mm_run p_Md_queued f 21 [.ref t, .int v1, .int v2, .int v3, .int v4, .int (v5 + 1)] [] h5
      else
        (mm_gr 12 24 h5 t).bind fun r7 =>
        mm_ci (f_Md_entryAt [.ref t, .int 0, .int v1, .int v5] h5) fun x9 h8 =>
        (mm_si h8 r7 v3 x9).bind fun h10 =>
        mm_run p_Md_queued f 21 [.ref t, .int v1, .int v2, .int (v3 + 1), .int v4, .int (v5 + 1)] [] h10
    else
      mm_run p_Md_queued f 21 [.ref t, .int v1, .int v2, .int v3, .int v4, .int (v5 + 1)] [] h3
  else
    mm_run p_Md_queued f 11 [.ref t, .int v1, .int v2, .int v3, .int (v4 + 1)] [] h1 := rfl
set_option maxRecDepth 100000 in
theorem i_Md_queued (l : Launch) : mm_Imp l yX12_queued cX12_queued 6 (some .int) 8 f_Md_queued := mm_imp l (P := p_Md_queued) mm_cls_ok mm_sys_ok (by decide) (mm_Pok_of (List.forall_mem_cons.mpr ⟨k_X12_133, (fun _ h => absurd h List.not_mem_nil)⟩) (List.forall_mem_cons.mpr ⟨v_Md_has l (Or.inl q_1780) (by decide), (List.forall_mem_cons.mpr ⟨v_Md_entryAt l q_1827 (by decide), (List.forall_mem_cons.mpr ⟨v_Md_entries l q_1807 (by decide), (List.forall_mem_cons.mpr ⟨v_Md_rowAt l q_2170 (by decide), (List.forall_mem_cons.mpr ⟨v_Md_chosenBy l q_2237 (by decide), (fun _ h => absurd h List.not_mem_nil)⟩)⟩)⟩)⟩)⟩) (fun _ h => absurd h List.not_mem_nil) (fun _ h => absurd h List.not_mem_nil)) (by decide +kernel) rfl (cats := [1, 1]) (fun as h r e => ⟨(mm_ga_inv e).1, (mm_gd_inv (mm_ga_inv e).2).1⟩) rfl (by decide)
theorem v_Md_queued (l : Launch) {own : String} {i n0 : Nat} (hl : Cond.methodLink own i yX12_queued ∈ mm_tbl) (hn : 9 ≤ n0) : mm_cok l own n0 i (0, 1, 1, f_Md_queued) := Or.inr (Or.inr ⟨rfl, yX12_queued, cX12_queued, 6, (some .int), 8, 12, TX12, 27, i_Md_queued l, hn, by decide, by decide +kernel, rfl, fun _ _ _ e => (mm_gd_inv (mm_ga_inv e).2).2, hl, q_2452, q_157, q_179, q_2453⟩)
def p_Md_leastAbove : mm_P := ([(0, .iconst (-1), 1, (-1)), (1, .istore_n 3, 1, 0), (2, .iconst 0, 1, 0), (3, .istore 4, 2, 0), (5, .iload 4, 2, 0), (7, .iload_n 1, 1, 0), (8, .if_icmp .ge 47, 3, 0), (11, .aload_n 0, 1, 0), (12, .getfield 136, 3, 0), (15, .iload 4, 2, 0), (17, .iaload, 1, 0), (18, .iload_n 2, 1, 0), (19, .if_icmp .le 28, 3, 0), (22, .iload_n 3, 1, 0), (23, .ifCond .lt 19, 3, 0), (26, .aload_n 0, 1, 0), (27, .getfield 136, 3, 0), (30, .iload 4, 2, 0), (32, .iaload, 1, 0), (33, .aload_n 0, 1, 0), (34, .getfield 136, 3, 0), (37, .iload_n 3, 1, 0), (38, .iaload, 1, 0), (39, .if_icmp .ge 8, 3, 0), (42, .iload 4, 2, 0), (44, .goto 4, 3, 0), (47, .iload_n 3, 1, 0), (48, .istore_n 3, 1, 0), (49, .iinc 4 1, 3, 1), (52, .goto (-47), 3, 0), (55, .iload_n 3, 1, 0), (56, .ireturn, 1, 0)], [(136, 12, 25, 4)], [], [], [], [(0, [0, 1, 2]), (5, [0, 1, 2, 3, 4])], [], 2)
def f_Md_leastAbove : mm_F := fun args h => mm_ga [1, 1, 1] args (mm_gd 12 args h (mm_run p_Md_leastAbove (mm_fu + 1) 0 args [] h))
set_option maxRecDepth 100000 in
theorem e_Md_leastAbove_0 (f : Nat) (t : Nat) (v1 : Int32) (v2 : Int32) (h : mm_H) : mm_run p_Md_leastAbove (f + 1) 0 [.ref t, .int v1, .int v2] [] h =
  mm_run p_Md_leastAbove f 5 [.ref t, .int v1, .int v2, .int (-1), .int 0] [] h := rfl
theorem e_Md_leastAbove (t : Nat) (v1 : Int32) (v2 : Int32) (h : mm_H) {fs : List Value} (hb : h t = some (.inr (12, fs))) : f_Md_leastAbove [.ref t, .int v1, .int v2] h =
  mm_run p_Md_leastAbove mm_fu 5 [.ref t, .int v1, .int v2, .int (-1), .int 0] [] h := (mm_ga_is rfl).trans ((mm_gd_is hb).trans (e_Md_leastAbove_0 mm_fu t v1 v2 h))
set_option maxRecDepth 100000 in
theorem e_Md_leastAbove_5 (f : Nat) (t : Nat) (v1 : Int32) (v2 : Int32) (v3 : Int32) (v4 : Int32) (h : mm_H) : mm_run p_Md_leastAbove (f + 1) 5 [.ref t, .int v1, .int v2, .int v3, .int v4] [] h =
  if v4 < v1 then
    (mm_gr 12 25 h t).bind fun r1 =>
    (mm_li h r1 v4).bind fun x2 =>
    if v2 < x2 then
      if v3 < 0 then
        mm_run p_Md_leastAbove f 5 [.ref t, .int v1, .int v2, .int v4, .int (v4 + 1)] [] h
      else
        (mm_gr 12 25 h t).bind fun r3 =>
        (mm_li h r3 v4).bind fun x4 =>
        (mm_gr 12 25 h t).bind fun r5 =>
        (mm_li h r5 v3).bind fun x6 =>
        if x4 < x6 then
          mm_run p_Md_leastAbove f 5 [.ref t, .int v1, .int v2, .int v4, .int (v4 + 1)] [] h
        else
          mm_run p_Md_leastAbove f 5 [.ref t, .int v1, .int v2, .int v3, .int (v4 + 1)] [] h
    else
      mm_run p_Md_leastAbove f 5 [.ref t, .int v1, .int v2, .int v3, .int (v4 + 1)] [] h
  else
    some (some (.int v3), h) := rfl
set_option maxRecDepth 100000 in
theorem i_Md_leastAbove (l : Launch) : mm_Imp l yX12_leastAbove cX12_leastAbove 5 (some .int) 1 f_Md_leastAbove := mm_imp l (P := p_Md_leastAbove) mm_cls_ok mm_sys_ok (by decide) (mm_Pok_of (List.forall_mem_cons.mpr ⟨k_X12_136, (fun _ h => absurd h List.not_mem_nil)⟩) (fun _ h => absurd h List.not_mem_nil) (fun _ h => absurd h List.not_mem_nil) (fun _ h => absurd h List.not_mem_nil)) (by decide +kernel) rfl (cats := [1, 1, 1]) (fun as h r e => ⟨(mm_ga_inv e).1, (mm_gd_inv (mm_ga_inv e).2).1⟩) rfl (by decide)
theorem v_Md_leastAbove (l : Launch) {own : String} {i n0 : Nat} (hl : Cond.methodLink own i yX12_leastAbove ∈ mm_tbl) (hn : 2 ≤ n0) : mm_cok l own n0 i (0, 2, 1, f_Md_leastAbove) := Or.inr (Or.inr ⟨rfl, yX12_leastAbove, cX12_leastAbove, 5, (some .int), 1, 12, TX12, 27, i_Md_leastAbove l, hn, by decide, by decide +kernel, rfl, fun _ _ _ e => (mm_gd_inv (mm_ga_inv e).2).2, hl, q_2456, q_158, q_179, q_2457⟩)
def p_Md_runsOf : mm_P := ([(0, .aload_n 0, 1, 0), (1, .iload_n 1, 1, 0), (2, .invokevirtual 550, 3, 0), (5, .istore_n 3, 1, 0), (6, .iload_n 3, 1, 0), (7, .iload_n 2, 1, 0), (8, .if_icmp .ge 7, 3, 0), (11, .iload_n 3, 1, 0), (12, .goto 4, 3, 0), (15, .iload_n 2, 1, 0), (16, .istore 4, 2, 0), (18, .iconst 0, 1, 0), (19, .istore 5, 2, 0), (21, .iload 5, 2, 0), (23, .iload 4, 2, 0), (25, .if_icmp .ge 23, 3, 0), (28, .aload_n 0, 1, 0), (29, .getfield 136, 3, 0), (32, .iload 5, 2, 0), (34, .aload_n 0, 1, 0), (35, .getfield 133, 3, 0), (38, .iload 5, 2, 0), (40, .iaload, 1, 0), (41, .iastore, 1, 0), (42, .iinc 5 1, 3, 1), (45, .goto (-24), 3, 0), (48, .iload 4, 2, 0), (50, .istore 5, 2, 0), (52, .iconst (-1), 1, (-1)), (53, .istore 6, 2, 0), (55, .iconst 0, 1, 0), (56, .istore 7, 2, 0), (58, .iconst 0, 1, 0), (59, .istore 8, 2, 0), (61, .iload 8, 2, 0), (63, .iload_n 3, 1, 0), (64, .if_icmp .ge 114, 3, 0), (67, .aload_n 0, 1, 0), (68, .iload 5, 2, 0), (70, .iload 6, 2, 0), (72, .invokevirtual 553, 3, 0), (75, .istore 9, 2, 0), (77, .iload 9, 2, 0), (79, .ifCond .lt 8, 3, 0), (82, .iload 8, 2, 0), (84, .ifCond .ne 23, 3, 0), (87, .aload_n 0, 1, 0), (88, .getfield 139, 3, 0), (91, .iload 7, 2, 0), (93, .iconst 0, 1, 0), (94, .iastore, 1, 0), (95, .iinc 7 1, 3, 1), (98, .aload_n 0, 1, 0), (99, .iload 5, 2, 0), (101, .iconst (-1), 1, (-1)), (102, .invokevirtual 553, 3, 0), (105, .istore 9, 2, 0), (107, .aload_n 0, 1, 0), (108, .getfield 136, 3, 0), (111, .iload 9, 2, 0), (113, .iaload, 1, 0), (114, .istore 6, 2, 0), (116, .aload_n 0, 1, 0), (117, .getfield 139, 3, 0), (120, .iload 7, 2, 0), (122, .iconst 1, 1, 1), (123, .isub, 1, 0), (124, .dup2, 1, 0), (125, .iaload, 1, 0), (126, .iconst 1, 1, 1), (127, .iadd, 1, 0), (128, .iastore, 1, 0), (129, .iload 4, 2, 0), (131, .iload_n 3, 1, 0), (132, .if_icmp .ge 23, 3, 0), (135, .aload_n 0, 1, 0), (136, .getfield 136, 3, 0), (139, .iload 9, 2, 0), (141, .aload_n 0, 1, 0), (142, .getfield 133, 3, 0), (145, .iload 4, 2, 0), (147, .iaload, 1, 0), (148, .iastore, 1, 0), (149, .iinc 4 1, 3, 1), (152, .goto 20, 3, 0), (155, .iinc 5 (-1), 3, (-1)), (158, .aload_n 0, 1, 0), (159, .getfield 136, 3, 0), (162, .iload 9, 2, 0), (164, .aload_n 0, 1, 0), (165, .getfield 136, 3, 0), (168, .iload 5, 2, 0), (170, .iaload, 1, 0), (171, .iastore, 1, 0), (172, .iinc 8 1, 3, 1), (175, .goto (-114), 3, 0), (178, .iload 7, 2, 0), (180, .ireturn, 1, 0)], [(133, 12, 24, 4), (136, 12, 25, 4), (139, 12, 26, 4)], [(550, 0, 1, 1, f_Md_queued), (553, 0, 2, 1, f_Md_leastAbove)], [], [], [(0, [0, 1, 2]), (21, [0, 3, 4, 5]), (61, [0, 3, 4, 5, 6, 7, 8]), (107, [0, 3, 4, 5, 7, 8, 9])], [], 2)
def f_Md_runsOf : mm_F := fun args h => mm_ga [1, 1, 1] args (mm_gd 12 args h (mm_run p_Md_runsOf (mm_fu + 1) 0 args [] h))
set_option maxRecDepth 100000 in
theorem e_Md_runsOf_0 (f : Nat) (t : Nat) (v1 : Int32) (v2 : Int32) (h : mm_H) : mm_run p_Md_runsOf (f + 1) 0 [.ref t, .int v1, .int v2] [] h =
  mm_ci (f_Md_queued [.ref t, .int v1] h) fun x2 h1 =>
  if x2 < v2 then
    mm_run p_Md_runsOf f 21 [.ref t, .int x2, .int x2, .int 0] [] h1
  else
    mm_run p_Md_runsOf f 21 [.ref t, .int x2, .int v2, .int 0] [] h1 := rfl
theorem e_Md_runsOf (t : Nat) (v1 : Int32) (v2 : Int32) (h : mm_H) {fs : List Value} (hb : h t = some (.inr (12, fs))) : f_Md_runsOf [.ref t, .int v1, .int v2] h =
  mm_ci (f_Md_queued [.ref t, .int v1] h) fun x2 h1 =>
  if x2 < v2 then
    mm_run p_Md_runsOf mm_fu 21 [.ref t, .int x2, .int x2, .int 0] [] h1
  else
    mm_run p_Md_runsOf mm_fu 21 [.ref t, .int x2, .int v2, .int 0] [] h1 := (mm_ga_is rfl).trans ((mm_gd_is hb).trans (e_Md_runsOf_0 mm_fu t v1 v2 h))
set_option maxRecDepth 100000 in
theorem e_Md_runsOf_21 (f : Nat) (t : Nat) (v3 : Int32) (v4 : Int32) (v5 : Int32) (h : mm_H) : mm_run p_Md_runsOf (f + 1) 21 [.ref t, .int v3, .int v4, .int v5] [] h =
  if v5 < v4 then
    (mm_gr 12 25 h t).bind fun r1 =>
    (mm_gr 12 24 h t).bind fun r2 =>
    (mm_li h r2 v5).bind fun x3 =>
    (mm_si h r1 v5 x3).bind fun h4 =>
    mm_run p_Md_runsOf f 21 [.ref t, .int v3, .int v4, .int (v5 + 1)] [] h4
  else
    mm_run p_Md_runsOf f 61 [.ref t, .int v3, .int v4, .int v4, .int (-1), .int 0, .int 0] [] h := rfl
set_option maxRecDepth 100000 in
theorem e_Md_runsOf_61 (f : Nat) (t : Nat) (v3 : Int32) (v4 : Int32) (v5 : Int32) (v6 : Int32) (v7 : Int32) (v8 : Int32) (h : mm_H) : mm_run p_Md_runsOf (f + 1) 61 [.ref t, .int v3, .int v4, .int v5, .int v6, .int v7, .int v8] [] h =
  if v8 < v3 then
    mm_ci (f_Md_leastAbove [.ref t, .int v5, .int v6] h) fun x2 h1 =>
    if x2 < 0 then
      (mm_gr 12 26 h1 t).bind fun r3 =>
      (mm_si h1 r3 v7 0).bind fun h4 =>
      mm_ci (f_Md_leastAbove [.ref t, .int v5, .int (-1)] h4) fun x6 h5 =>
      mm_run p_Md_runsOf f 107 [.ref t, .int v3, .int v4, .int v5, .int (v7 + 1), .int v8, .int x6] [] h5
    else
      if v8 = 0 then
        (mm_gr 12 26 h1 t).bind fun r7 =>
        (mm_si h1 r7 v7 0).bind fun h8 =>
        mm_ci (f_Md_leastAbove [.ref t, .int v5, .int (-1)] h8) fun x10 h9 =>
        mm_run p_Md_runsOf f 107 [.ref t, .int v3, .int v4, .int v5, .int (v7 + 1), .int v8, .int x10] [] h9
      else
        mm_run p_Md_runsOf f 107 [.ref t, .int v3, .int v4, .int v5, .int v7, .int v8, .int x2] [] h1
  else
    some (some (.int v7), h) := rfl
set_option maxRecDepth 100000 in
theorem e_Md_runsOf_107 (f : Nat) (t : Nat) (v3 : Int32) (v4 : Int32) (v5 : Int32) (v7 : Int32) (v8 : Int32) (v9 : Int32) (h : mm_H) : mm_run p_Md_runsOf (f + 1) 107 [.ref t, .int v3, .int v4, .int v5, .int v7, .int v8, .int v9] [] h =
  (mm_gr 12 25 h t).bind fun r1 =>
  (mm_li h r1 v9).bind fun x2 =>
  (mm_gr 12 26 h t).bind fun r3 =>
  (mm_li h r3 (v7 - 1)).bind fun x4 =>
  (mm_si h r3 (v7 - 1) (x4 + 1)).bind fun h5 =>
  if v4 < v3 then
    (mm_gr 12 25 h5 t).bind fun r6 =>
    (mm_gr 12 24 h5 t).bind fun r7 =>
    (mm_li h5 r7 v4).bind fun x8 =>
    (mm_si h5 r6 v9 x8).bind fun h9 =>
    mm_run p_Md_runsOf f 61 [.ref t, .int v3, .int (v4 + 1), .int v5, .int x2, .int v7, .int (v8 + 1)] [] h9
  else
    (mm_gr 12 25 h5 t).bind fun r10 =>
    (mm_gr 12 25 h5 t).bind fun r11 =>
    (mm_li h5 r11 (v5 + (-1))).bind fun x12 =>
    (mm_si h5 r10 v9 x12).bind fun h13 =>
    mm_run p_Md_runsOf f 61 [.ref t, .int v3, .int v4, .int (v5 + (-1)), .int x2, .int v7, .int (v8 + 1)] [] h13 := rfl
set_option maxRecDepth 100000 in
theorem i_Md_runsOf (l : Launch) : mm_Imp l yX12_runsOf cX12_runsOf 10 (some .int) 9 f_Md_runsOf := mm_imp l (P := p_Md_runsOf) mm_cls_ok mm_sys_ok (by decide) (mm_Pok_of (List.forall_mem_cons.mpr ⟨k_X12_133, (List.forall_mem_cons.mpr ⟨k_X12_136, (List.forall_mem_cons.mpr ⟨k_X12_139, (fun _ h => absurd h List.not_mem_nil)⟩)⟩)⟩) (List.forall_mem_cons.mpr ⟨v_Md_queued l q_2450 (by decide), (List.forall_mem_cons.mpr ⟨v_Md_leastAbove l q_2454 (by decide), (fun _ h => absurd h List.not_mem_nil)⟩)⟩) (fun _ h => absurd h List.not_mem_nil) (fun _ h => absurd h List.not_mem_nil)) (by decide +kernel) rfl (cats := [1, 1, 1]) (fun as h r e => ⟨(mm_ga_inv e).1, (mm_gd_inv (mm_ga_inv e).2).1⟩) rfl (by decide)
theorem v_Md_runsOf (l : Launch) {own : String} {i n0 : Nat} (hl : Cond.methodLink own i yX12_runsOf ∈ mm_tbl) (hn : 10 ≤ n0) : mm_cok l own n0 i (0, 2, 1, f_Md_runsOf) := Or.inr (Or.inr ⟨rfl, yX12_runsOf, cX12_runsOf, 10, (some .int), 9, 12, TX12, 27, i_Md_runsOf l, hn, by decide, by decide +kernel, rfl, fun _ _ _ e => (mm_gd_inv (mm_ga_inv e).2).2, hl, q_2448, q_156, q_179, q_2449⟩)
def p_Md_runs : mm_P := ([(0, .aload_n 0, 1, 0), (1, .iconst 0, 1, 0), (2, .putfield 1, 3, 0), (5, .aload_n 0, 1, 0), (6, .iload_n 1, 1, 0), (7, .invokevirtual 484, 3, 0), (10, .ifCond .eq 22, 3, 0), (13, .iload_n 2, 1, 0), (14, .iconst 1, 1, 1), (15, .bipush 8, 2, 8), (17, .invokestatic 275, 3, 0), (20, .ifCond .eq 12, 3, 0), (23, .aload_n 0, 1, 0), (24, .iload_n 1, 1, 0), (25, .iload_n 2, 1, 0), (26, .invokevirtual 556, 3, 0), (29, .goto 4, 3, 0), (32, .iconst (-1), 1, (-1)), (33, .ireturn, 1, 0)], [(1, 12, 0, 0)], [(275, 1, 3, 1, f_Md_within), (484, 0, 1, 1, f_Md_isIndex), (556, 0, 2, 1, f_Md_runsOf)], [], [], [(0, [0, 1, 2])], [], 2)
def f_Md_runs : mm_F := fun args h => mm_ga [1, 1, 1] args (mm_gd 12 args h (mm_run p_Md_runs (mm_fu + 1) 0 args [] h))
set_option maxRecDepth 100000 in
theorem e_Md_runs_0 (f : Nat) (t : Nat) (v1 : Int32) (v2 : Int32) (h : mm_H) : mm_run p_Md_runs (f + 1) 0 [.ref t, .int v1, .int v2] [] h =
  (mm_pf 12 0 (.int 0) h t).bind fun h1 =>
  mm_ci (f_Md_isIndex [.ref t, .int v1] h1) fun x3 h2 =>
  if x3 = 0 then
    some (some (.int (-1)), h2)
  else
    mm_ci (f_Md_within [.int v2, .int 1, .int 8] h2) fun x5 h4 =>
    if x5 = 0 then
      some (some (.int (-1)), h4)
    else
      mm_ci (f_Md_runsOf [.ref t, .int v1, .int v2] h4) fun x7 h6 =>
      some (some (.int x7), h6) := rfl
theorem e_Md_runs (t : Nat) (v1 : Int32) (v2 : Int32) (h : mm_H) {fs : List Value} (hb : h t = some (.inr (12, fs))) : f_Md_runs [.ref t, .int v1, .int v2] h =
  (mm_pf 12 0 (.int 0) h t).bind fun h1 =>
  mm_ci (f_Md_isIndex [.ref t, .int v1] h1) fun x3 h2 =>
  if x3 = 0 then
    some (some (.int (-1)), h2)
  else
    mm_ci (f_Md_within [.int v2, .int 1, .int 8] h2) fun x5 h4 =>
    if x5 = 0 then
      some (some (.int (-1)), h4)
    else
      mm_ci (f_Md_runsOf [.ref t, .int v1, .int v2] h4) fun x7 h6 =>
      some (some (.int x7), h6) := (mm_ga_is rfl).trans ((mm_gd_is hb).trans (e_Md_runs_0 mm_fu t v1 v2 h))
set_option maxRecDepth 100000 in
theorem i_Md_runs (l : Launch) : mm_Imp l yX12_runs cX12_runs 3 (some .int) 10 f_Md_runs := mm_imp l (P := p_Md_runs) mm_cls_ok mm_sys_ok (by decide) (mm_Pok_of (List.forall_mem_cons.mpr ⟨k_X12_1, (fun _ h => absurd h List.not_mem_nil)⟩) (List.forall_mem_cons.mpr ⟨v_Md_within l (Or.inl q_1769) (by decide), (List.forall_mem_cons.mpr ⟨v_Md_isIndex l q_2166 (by decide), (List.forall_mem_cons.mpr ⟨v_Md_runsOf l q_2446 (by decide), (fun _ h => absurd h List.not_mem_nil)⟩)⟩)⟩) (fun _ h => absurd h List.not_mem_nil) (fun _ h => absurd h List.not_mem_nil)) (by decide +kernel) rfl (cats := [1, 1, 1]) (fun as h r e => ⟨(mm_ga_inv e).1, (mm_gd_inv (mm_ga_inv e).2).1⟩) rfl (by decide)
theorem v_Md_runs (l : Launch) {own : String} {i n0 : Nat} (hl : Cond.methodLink own i yX12_runs ∈ mm_tbl) (hn : 11 ≤ n0) : mm_cok l own n0 i (0, 2, 1, f_Md_runs) := Or.inr (Or.inr ⟨rfl, yX12_runs, cX12_runs, 3, (some .int), 10, 12, TX12, 27, i_Md_runs l, hn, by decide, by decide +kernel, rfl, fun _ _ _ e => (mm_gd_inv (mm_ga_inv e).2).2, hl, q_2443, q_2444, q_179, q_2445⟩)
def p_Md_run : mm_P := ([(0, .aload_n 0, 1, 0), (1, .iconst 0, 1, 0), (2, .putfield 1, 3, 0), (5, .aload_n 0, 1, 0), (6, .iload_n 1, 1, 0), (7, .invokevirtual 484, 3, 0), (10, .ifCond .eq 22, 3, 0), (13, .iload_n 2, 1, 0), (14, .iconst 1, 1, 1), (15, .bipush 8, 2, 8), (17, .invokestatic 275, 3, 0), (20, .ifCond .eq 12, 3, 0), (23, .aload_n 0, 1, 0), (24, .iload_n 1, 1, 0), (25, .iload_n 2, 1, 0), (26, .invokevirtual 556, 3, 0), (29, .goto 4, 3, 0), (32, .iconst 0, 1, 0), (33, .istore 4, 2, 0), (35, .iload_n 3, 1, 0), (36, .ifCond .lt 18, 3, 0), (39, .iload_n 3, 1, 0), (40, .iload 4, 2, 0), (42, .if_icmp .ge 12, 3, 0), (45, .aload_n 0, 1, 0), (46, .getfield 139, 3, 0), (49, .iload_n 3, 1, 0), (50, .iaload, 1, 0), (51, .goto 4, 3, 0), (54, .iconst (-1), 1, (-1)), (55, .ireturn, 1, 0)], [(1, 12, 0, 0), (139, 12, 26, 4)], [(275, 1, 3, 1, f_Md_within), (484, 0, 1, 1, f_Md_isIndex), (556, 0, 2, 1, f_Md_runsOf)], [], [], [(0, [0, 1, 2, 3])], [], 2)
def f_Md_run : mm_F := fun args h => mm_ga [1, 1, 1, 1] args (mm_gd 12 args h (mm_run p_Md_run (mm_fu + 1) 0 args [] h))
set_option maxRecDepth 100000 in
theorem e_Md_run_0 (f : Nat) (t : Nat) (v1 : Int32) (v2 : Int32) (v3 : Int32) (h : mm_H) : mm_run p_Md_run (f + 1) 0 [.ref t, .int v1, .int v2, .int v3] [] h =
  (mm_pf 12 0 (.int 0) h t).bind fun h1 =>
  mm_ci (f_Md_isIndex [.ref t, .int v1] h1) fun x3 h2 =>
  if x3 = 0 then
    if v3 < 0 then
      some (some (.int (-1)), h2)
    else
      if v3 < 0 then
        (mm_gr 12 26 h2 t).bind fun r4 =>
        (mm_li h2 r4 v3).bind fun x5 =>
        some (some (.int x5), h2)
      else
        some (some (.int (-1)), h2)
  else
    mm_ci (f_Md_within [.int v2, .int 1, .int 8] h2) fun x7 h6 =>
    if x7 = 0 then
      if v3 < 0 then
        some (some (.int (-1)), h6)
      else
        if v3 < 0 then
          (mm_gr 12 26 h6 t).bind fun r8 =>
          (mm_li h6 r8 v3).bind fun x9 =>
          some (some (.int x9), h6)
        else
          some (some (.int (-1)), h6)
    else
      mm_ci (f_Md_runsOf [.ref t, .int v1, .int v2] h6) fun x11 h10 =>
      if v3 < 0 then
        some (some (.int (-1)), h10)
      else
        if v3 < x11 then
          (mm_gr 12 26 h10 t).bind fun r12 =>
          (mm_li h10 r12 v3).bind fun x13 =>
          some (some (.int x13), h10)
        else
          some (some (.int (-1)), h10) := rfl
theorem e_Md_run (t : Nat) (v1 : Int32) (v2 : Int32) (v3 : Int32) (h : mm_H) {fs : List Value} (hb : h t = some (.inr (12, fs))) : f_Md_run [.ref t, .int v1, .int v2, .int v3] h =
  (mm_pf 12 0 (.int 0) h t).bind fun h1 =>
  mm_ci (f_Md_isIndex [.ref t, .int v1] h1) fun x3 h2 =>
  if x3 = 0 then
    if v3 < 0 then
      some (some (.int (-1)), h2)
    else
      if v3 < 0 then
        (mm_gr 12 26 h2 t).bind fun r4 =>
        (mm_li h2 r4 v3).bind fun x5 =>
        some (some (.int x5), h2)
      else
        some (some (.int (-1)), h2)
  else
    mm_ci (f_Md_within [.int v2, .int 1, .int 8] h2) fun x7 h6 =>
    if x7 = 0 then
      if v3 < 0 then
        some (some (.int (-1)), h6)
      else
        if v3 < 0 then
          (mm_gr 12 26 h6 t).bind fun r8 =>
          (mm_li h6 r8 v3).bind fun x9 =>
          some (some (.int x9), h6)
        else
          some (some (.int (-1)), h6)
    else
      mm_ci (f_Md_runsOf [.ref t, .int v1, .int v2] h6) fun x11 h10 =>
      if v3 < 0 then
        some (some (.int (-1)), h10)
      else
        if v3 < x11 then
          (mm_gr 12 26 h10 t).bind fun r12 =>
          (mm_li h10 r12 v3).bind fun x13 =>
          some (some (.int x13), h10)
        else
          some (some (.int (-1)), h10) := (mm_ga_is rfl).trans ((mm_gd_is hb).trans (e_Md_run_0 mm_fu t v1 v2 v3 h))
set_option maxRecDepth 100000 in
theorem i_Md_run (l : Launch) : mm_Imp l yX12_run cX12_run 5 (some .int) 10 f_Md_run := mm_imp l (P := p_Md_run) mm_cls_ok mm_sys_ok (by decide) (mm_Pok_of (List.forall_mem_cons.mpr ⟨k_X12_1, (List.forall_mem_cons.mpr ⟨k_X12_139, (fun _ h => absurd h List.not_mem_nil)⟩)⟩) (List.forall_mem_cons.mpr ⟨v_Md_within l (Or.inl q_1769) (by decide), (List.forall_mem_cons.mpr ⟨v_Md_isIndex l q_2166 (by decide), (List.forall_mem_cons.mpr ⟨v_Md_runsOf l q_2446 (by decide), (fun _ h => absurd h List.not_mem_nil)⟩)⟩)⟩) (fun _ h => absurd h List.not_mem_nil) (fun _ h => absurd h List.not_mem_nil)) (by decide +kernel) rfl (cats := [1, 1, 1, 1]) (fun as h r e => ⟨(mm_ga_inv e).1, (mm_gd_inv (mm_ga_inv e).2).1⟩) rfl (by decide)
theorem v_Md_run (l : Launch) {own : String} {i n0 : Nat} (hl : Cond.methodLink own i yX12_run ∈ mm_tbl) (hn : 11 ≤ n0) : mm_cok l own n0 i (0, 3, 1, f_Md_run) := Or.inr (Or.inr ⟨rfl, yX12_run, cX12_run, 5, (some .int), 10, 12, TX12, 27, i_Md_run l, hn, by decide, by decide +kernel, rfl, fun _ _ _ e => (mm_gd_inv (mm_ga_inv e).2).2, hl, q_2459, q_2460, q_179, q_2461⟩)
def p_Md_takeLeast : mm_P := ([(0, .iconst 0, 1, 0), (1, .istore_n 2, 1, 0), (2, .iconst 1, 1, 1), (3, .istore_n 3, 1, 0), (4, .iload_n 3, 1, 0), (5, .iload_n 1, 1, 0), (6, .if_icmp .ge 30, 3, 0), (9, .aload_n 0, 1, 0), (10, .getfield 139, 3, 0), (13, .iload_n 3, 1, 0), (14, .iaload, 1, 0), (15, .aload_n 0, 1, 0), (16, .getfield 139, 3, 0), (19, .iload_n 2, 1, 0), (20, .iaload, 1, 0), (21, .if_icmp .ge 7, 3, 0), (24, .iload_n 3, 1, 0), (25, .goto 4, 3, 0), (28, .iload_n 2, 1, 0), (29, .istore_n 2, 1, 0), (30, .iinc 3 1, 3, 1), (33, .goto (-29), 3, 0), (36, .aload_n 0, 1, 0), (37, .getfield 139, 3, 0), (40, .iload_n 2, 1, 0), (41, .iaload, 1, 0), (42, .istore_n 3, 1, 0), (43, .aload_n 0, 1, 0), (44, .getfield 139, 3, 0), (47, .iload_n 2, 1, 0), (48, .aload_n 0, 1, 0), (49, .getfield 139, 3, 0), (52, .iload_n 1, 1, 0), (53, .iconst 1, 1, 1), (54, .isub, 1, 0), (55, .iaload, 1, 0), (56, .iastore, 1, 0), (57, .iload_n 3, 1, 0), (58, .ireturn, 1, 0)], [(139, 12, 26, 4)], [], [], [], [(0, [0, 1]), (4, [0, 1, 2, 3])], [], 2)
def f_Md_takeLeast : mm_F := fun args h => mm_ga [1, 1] args (mm_gd 12 args h (mm_run p_Md_takeLeast (mm_fu + 1) 0 args [] h))
set_option maxRecDepth 100000 in
theorem e_Md_takeLeast_0 (f : Nat) (t : Nat) (v1 : Int32) (h : mm_H) : mm_run p_Md_takeLeast (f + 1) 0 [.ref t, .int v1] [] h =
  mm_run p_Md_takeLeast f 4 [.ref t, .int v1, .int 0, .int 1] [] h := rfl
theorem e_Md_takeLeast (t : Nat) (v1 : Int32) (h : mm_H) {fs : List Value} (hb : h t = some (.inr (12, fs))) : f_Md_takeLeast [.ref t, .int v1] h =
  mm_run p_Md_takeLeast mm_fu 4 [.ref t, .int v1, .int 0, .int 1] [] h := (mm_ga_is rfl).trans ((mm_gd_is hb).trans (e_Md_takeLeast_0 mm_fu t v1 h))
set_option maxRecDepth 100000 in
theorem e_Md_takeLeast_4 (f : Nat) (t : Nat) (v1 : Int32) (v2 : Int32) (v3 : Int32) (h : mm_H) : mm_run p_Md_takeLeast (f + 1) 4 [.ref t, .int v1, .int v2, .int v3] [] h =
  if v3 < v1 then
    (mm_gr 12 26 h t).bind fun r1 =>
    (mm_li h r1 v3).bind fun x2 =>
    (mm_gr 12 26 h t).bind fun r3 =>
    (mm_li h r3 v2).bind fun x4 =>
    if x2 < x4 then
      mm_run p_Md_takeLeast f 4 [.ref t, .int v1, .int v3, .int (v3 + 1)] [] h
    else
      mm_run p_Md_takeLeast f 4 [.ref t, .int v1, .int v2, .int (v3 + 1)] [] h
  else
    (mm_gr 12 26 h t).bind fun r5 =>
    (mm_li h r5 v2).bind fun x6 =>
    (mm_gr 12 26 h t).bind fun r7 =>
    (mm_gr 12 26 h t).bind fun r8 =>
    (mm_li h r8 (v1 - 1)).bind fun x9 =>
    (mm_si h r7 v2 x9).bind fun h10 =>
    some (some (.int x6), h10) := rfl
set_option maxRecDepth 100000 in
theorem i_Md_takeLeast (l : Launch) : mm_Imp l yX12_takeLeast cX12_takeLeast 4 (some .int) 1 f_Md_takeLeast := mm_imp l (P := p_Md_takeLeast) mm_cls_ok mm_sys_ok (by decide) (mm_Pok_of (List.forall_mem_cons.mpr ⟨k_X12_139, (fun _ h => absurd h List.not_mem_nil)⟩) (fun _ h => absurd h List.not_mem_nil) (fun _ h => absurd h List.not_mem_nil) (fun _ h => absurd h List.not_mem_nil)) (by decide +kernel) rfl (cats := [1, 1]) (fun as h r e => ⟨(mm_ga_inv e).1, (mm_gd_inv (mm_ga_inv e).2).1⟩) rfl (by decide)
theorem v_Md_takeLeast (l : Launch) {own : String} {i n0 : Nat} (hl : Cond.methodLink own i yX12_takeLeast ∈ mm_tbl) (hn : 2 ≤ n0) : mm_cok l own n0 i (0, 1, 1, f_Md_takeLeast) := Or.inr (Or.inr ⟨rfl, yX12_takeLeast, cX12_takeLeast, 4, (some .int), 1, 12, TX12, 27, i_Md_takeLeast l, hn, by decide, by decide +kernel, rfl, fun _ _ _ e => (mm_gd_inv (mm_ga_inv e).2).2, hl, q_2468, q_159, q_179, q_2469⟩)
def p_Md_merged : mm_P := ([(0, .aload_n 0, 1, 0), (1, .iconst 0, 1, 0), (2, .putfield 1, 3, 0), (5, .aload_n 0, 1, 0), (6, .iload_n 1, 1, 0), (7, .invokevirtual 484, 3, 0), (10, .ifCond .eq 13, 3, 0), (13, .iload_n 2, 1, 0), (14, .iconst 1, 1, 1), (15, .bipush 8, 2, 8), (17, .invokestatic 275, 3, 0), (20, .ifCond .ne 5, 3, 0), (23, .iconst (-1), 1, (-1)), (24, .ireturn, 1, 0), (25, .iconst 0, 1, 0), (26, .istore_n 3, 1, 0), (27, .aload_n 0, 1, 0), (28, .iload_n 1, 1, 0), (29, .iload_n 2, 1, 0), (30, .invokevirtual 556, 3, 0), (33, .istore 4, 2, 0), (35, .iload 4, 2, 0), (37, .iconst 1, 1, 1), (38, .if_icmp .le 49, 3, 0), (41, .aload_n 0, 1, 0), (42, .iload 4, 2, 0), (44, .invokevirtual 559, 3, 0), (47, .istore 5, 2, 0), (49, .aload_n 0, 1, 0), (50, .iload 4, 2, 0), (52, .iconst 1, 1, 1), (53, .isub, 1, 0), (54, .invokevirtual 559, 3, 0), (57, .istore 6, 2, 0), (59, .aload_n 0, 1, 0), (60, .getfield 139, 3, 0), (63, .iload 4, 2, 0), (65, .iconst 2, 1, 2), (66, .isub, 1, 0), (67, .iload 5, 2, 0), (69, .iload 6, 2, 0), (71, .iadd, 1, 0), (72, .iastore, 1, 0), (73, .iload_n 3, 1, 0), (74, .iload 5, 2, 0), (76, .iload 6, 2, 0), (78, .iadd, 1, 0), (79, .iadd, 1, 0), (80, .istore_n 3, 1, 0), (81, .iinc 4 (-1), 3, (-1)), (84, .goto (-49), 3, 0), (87, .iload_n 3, 1, 0), (88, .ireturn, 1, 0)], [(1, 12, 0, 0), (139, 12, 26, 4)], [(275, 1, 3, 1, f_Md_within), (484, 0, 1, 1, f_Md_isIndex), (556, 0, 2, 1, f_Md_runsOf), (559, 0, 1, 1, f_Md_takeLeast)], [], [], [(0, [0, 1, 2]), (35, [0, 3, 4])], [], 2)
def f_Md_merged : mm_F := fun args h => mm_ga [1, 1, 1] args (mm_gd 12 args h (mm_run p_Md_merged (mm_fu + 1) 0 args [] h))
set_option maxRecDepth 100000 in
theorem e_Md_merged_0 (f : Nat) (t : Nat) (v1 : Int32) (v2 : Int32) (h : mm_H) : mm_run p_Md_merged (f + 1) 0 [.ref t, .int v1, .int v2] [] h =
  (mm_pf 12 0 (.int 0) h t).bind fun h1 =>
  mm_ci (f_Md_isIndex [.ref t, .int v1] h1) fun x3 h2 =>
  if x3 = 0 then
    some (some (.int (-1)), h2)
  else
    mm_ci (f_Md_within [.int v2, .int 1, .int 8] h2) fun x5 h4 =>
    if x5 = 0 then
      some (some (.int (-1)), h4)
    else
      mm_ci (f_Md_runsOf [.ref t, .int v1, .int v2] h4) fun x7 h6 =>
      mm_run p_Md_merged f 35 [.ref t, .int 0, .int x7] [] h6 := rfl
theorem e_Md_merged (t : Nat) (v1 : Int32) (v2 : Int32) (h : mm_H) {fs : List Value} (hb : h t = some (.inr (12, fs))) : f_Md_merged [.ref t, .int v1, .int v2] h =
  (mm_pf 12 0 (.int 0) h t).bind fun h1 =>
  mm_ci (f_Md_isIndex [.ref t, .int v1] h1) fun x3 h2 =>
  if x3 = 0 then
    some (some (.int (-1)), h2)
  else
    mm_ci (f_Md_within [.int v2, .int 1, .int 8] h2) fun x5 h4 =>
    if x5 = 0 then
      some (some (.int (-1)), h4)
    else
      mm_ci (f_Md_runsOf [.ref t, .int v1, .int v2] h4) fun x7 h6 =>
      mm_run p_Md_merged mm_fu 35 [.ref t, .int 0, .int x7] [] h6 := (mm_ga_is rfl).trans ((mm_gd_is hb).trans (e_Md_merged_0 mm_fu t v1 v2 h))
set_option maxRecDepth 100000 in
theorem e_Md_merged_35 (f : Nat) (t : Nat) (v3 : Int32) (v4 : Int32) (h : mm_H) : mm_run p_Md_merged (f + 1) 35 [.ref t, .int v3, .int v4] [] h =
  if (1 : Int32) < v4 then
    mm_ci (f_Md_takeLeast [.ref t, .int v4] h) fun x2 h1 =>
    mm_ci (f_Md_takeLeast [.ref t, .int (v4 - 1)] h1) fun x4 h3 =>
    (mm_gr 12 26 h3 t).bind fun r5 =>
    (mm_si h3 r5 (v4 - 2) (x2 + x4)).bind fun h6 =>
    mm_run p_Md_merged f 35 [.ref t, .int (v3 + (x2 + x4)), .int (v4 + (-1))] [] h6
  else
    some (some (.int v3), h) := rfl
set_option maxRecDepth 100000 in
theorem i_Md_merged (l : Launch) : mm_Imp l yX12_merged cX12_merged 7 (some .int) 10 f_Md_merged := mm_imp l (P := p_Md_merged) mm_cls_ok mm_sys_ok (by decide) (mm_Pok_of (List.forall_mem_cons.mpr ⟨k_X12_1, (List.forall_mem_cons.mpr ⟨k_X12_139, (fun _ h => absurd h List.not_mem_nil)⟩)⟩) (List.forall_mem_cons.mpr ⟨v_Md_within l (Or.inl q_1769) (by decide), (List.forall_mem_cons.mpr ⟨v_Md_isIndex l q_2166 (by decide), (List.forall_mem_cons.mpr ⟨v_Md_runsOf l q_2446 (by decide), (List.forall_mem_cons.mpr ⟨v_Md_takeLeast l q_2466 (by decide), (fun _ h => absurd h List.not_mem_nil)⟩)⟩)⟩)⟩) (fun _ h => absurd h List.not_mem_nil) (fun _ h => absurd h List.not_mem_nil)) (by decide +kernel) rfl (cats := [1, 1, 1]) (fun as h r e => ⟨(mm_ga_inv e).1, (mm_gd_inv (mm_ga_inv e).2).1⟩) rfl (by decide)
theorem v_Md_merged (l : Launch) {own : String} {i n0 : Nat} (hl : Cond.methodLink own i yX12_merged ∈ mm_tbl) (hn : 11 ≤ n0) : mm_cok l own n0 i (0, 2, 1, f_Md_merged) := Or.inr (Or.inr ⟨rfl, yX12_merged, cX12_merged, 7, (some .int), 10, 12, TX12, 27, i_Md_merged l, hn, by decide, by decide +kernel, rfl, fun _ _ _ e => (mm_gd_inv (mm_ga_inv e).2).2, hl, q_2463, q_2464, q_179, q_2465⟩)
def p_Md_firmAt : mm_P := ([(0, .iconst 0, 1, 0), (1, .istore_n 2, 1, 0), (2, .iconst 0, 1, 0), (3, .istore_n 3, 1, 0), (4, .iload_n 3, 1, 0), (5, .aload_n 0, 1, 0), (6, .getfield 123, 3, 0), (9, .iconst 4, 1, 4), (10, .iaload, 1, 0), (11, .if_icmp .ge 42, 3, 0), (14, .iload_n 2, 1, 0), (15, .aload_n 0, 1, 0), (16, .getfield 123, 3, 0), (19, .bipush 43, 2, 43), (21, .iload_n 3, 1, 0), (22, .iadd, 1, 0), (23, .iaload, 1, 0), (24, .ifCond .ne 20, 3, 0), (27, .aload_n 0, 1, 0), (28, .getfield 123, 3, 0), (31, .bipush 55, 2, 55), (33, .iload_n 3, 1, 0), (34, .iadd, 1, 0), (35, .iaload, 1, 0), (36, .iload_n 1, 1, 0), (37, .if_icmp .ne 7, 3, 0), (40, .iconst 1, 1, 1), (41, .goto 4, 3, 0), (44, .iconst 0, 1, 0), (45, .iadd, 1, 0), (46, .istore_n 2, 1, 0), (47, .iinc 3 1, 3, 1), (50, .goto (-46), 3, 0), (53, .iload_n 2, 1, 0), (54, .ireturn, 1, 0)], [(123, 12, 14, 4)], [], [], [], [(0, [0, 1]), (4, [0, 1, 2, 3])], [], 2)
def f_Md_firmAt : mm_F := fun args h => mm_ga [1, 1] args (mm_gd 12 args h (mm_run p_Md_firmAt (mm_fu + 1) 0 args [] h))
set_option maxRecDepth 100000 in
theorem e_Md_firmAt_0 (f : Nat) (t : Nat) (v1 : Int32) (h : mm_H) : mm_run p_Md_firmAt (f + 1) 0 [.ref t, .int v1] [] h =
  mm_run p_Md_firmAt f 4 [.ref t, .int v1, .int 0, .int 0] [] h := rfl
theorem e_Md_firmAt (t : Nat) (v1 : Int32) (h : mm_H) {fs : List Value} (hb : h t = some (.inr (12, fs))) : f_Md_firmAt [.ref t, .int v1] h =
  mm_run p_Md_firmAt mm_fu 4 [.ref t, .int v1, .int 0, .int 0] [] h := (mm_ga_is rfl).trans ((mm_gd_is hb).trans (e_Md_firmAt_0 mm_fu t v1 h))
set_option maxRecDepth 100000 in
theorem e_Md_firmAt_4 (f : Nat) (t : Nat) (v1 : Int32) (v2 : Int32) (v3 : Int32) (h : mm_H) : mm_run p_Md_firmAt (f + 1) 4 [.ref t, .int v1, .int v2, .int v3] [] h =
  (mm_gr 12 14 h t).bind fun r1 =>
  (mm_li h r1 4).bind fun x2 =>
  if v3 < x2 then
    (mm_gr 12 14 h t).bind fun r3 =>
    (mm_li h r3 (43 + v3)).bind fun x4 =>
    if x4 = 0 then
      (mm_gr 12 14 h t).bind fun r5 =>
      (mm_li h r5 (55 + v3)).bind fun x6 =>
      if x6 = v1 then
        mm_run p_Md_firmAt f 4 [.ref t, .int v1, .int (v2 + 1), .int (v3 + 1)] [] h
      else
        mm_run p_Md_firmAt f 4 [.ref t, .int v1, .int (v2 + 0), .int (v3 + 1)] [] h
    else
      mm_run p_Md_firmAt f 4 [.ref t, .int v1, .int (v2 + 0), .int (v3 + 1)] [] h
  else
    some (some (.int v2), h) := rfl
set_option maxRecDepth 100000 in
theorem i_Md_firmAt (l : Launch) : mm_Imp l yX12_firmAt cX12_firmAt 4 (some .int) 1 f_Md_firmAt := mm_imp l (P := p_Md_firmAt) mm_cls_ok mm_sys_ok (by decide) (mm_Pok_of (List.forall_mem_cons.mpr ⟨k_X12_123, (fun _ h => absurd h List.not_mem_nil)⟩) (fun _ h => absurd h List.not_mem_nil) (fun _ h => absurd h List.not_mem_nil) (fun _ h => absurd h List.not_mem_nil)) (by decide +kernel) rfl (cats := [1, 1]) (fun as h r e => ⟨(mm_ga_inv e).1, (mm_gd_inv (mm_ga_inv e).2).1⟩) rfl (by decide)
theorem v_Md_firmAt (l : Launch) {own : String} {i n0 : Nat} (hl : Cond.methodLink own i yX12_firmAt ∈ mm_tbl) (hn : 2 ≤ n0) : mm_cok l own n0 i (0, 1, 1, f_Md_firmAt) := Or.inr (Or.inr ⟨rfl, yX12_firmAt, cX12_firmAt, 4, (some .int), 1, 12, TX12, 27, i_Md_firmAt l, hn, by decide, by decide +kernel, rfl, fun _ _ _ e => (mm_gd_inv (mm_ga_inv e).2).2, hl, q_2480, q_161, q_179, q_2481⟩)
def p_Md_bulk : mm_P := ([(0, .iload_n 1, 1, 0), (1, .invokestatic 380, 3, 0), (4, .istore_n 2, 1, 0), (5, .iconst 0, 1, 0), (6, .istore_n 3, 1, 0), (7, .iconst 0, 1, 0), (8, .istore 4, 2, 0), (10, .iload 4, 2, 0), (12, .sipush 999, 3, 999), (15, .if_icmp .gt 18, 3, 0), (18, .iload_n 3, 1, 0), (19, .aload_n 0, 1, 0), (20, .iload 4, 2, 0), (22, .invokevirtual 562, 3, 0), (25, .iadd, 1, 0), (26, .istore_n 3, 1, 0), (27, .iinc 4 1, 3, 1), (30, .goto (-20), 3, 0), (33, .iconst 0, 1, 0), (34, .istore 4, 2, 0), (36, .iconst 0, 1, 0), (37, .istore 5, 2, 0), (39, .iload 5, 2, 0), (41, .sipush 999, 3, 999), (44, .if_icmp .gt 67, 3, 0), (47, .iload_n 2, 1, 0), (48, .ifCond .le 63, 3, 0), (51, .iload_n 3, 1, 0), (52, .ifCond .le 59, 3, 0), (55, .aload_n 0, 1, 0), (56, .iload 5, 2, 0), (58, .invokevirtual 562, 3, 0), (61, .istore 6, 2, 0), (63, .aload_n 0, 1, 0), (64, .iconst 0, 1, 0), (65, .iload_n 1, 1, 0), (66, .iconst 0, 1, 0), (67, .iload 5, 2, 0), (69, .invokevirtual 289, 3, 0), (72, .invokestatic 380, 3, 0), (75, .istore 7, 2, 0), (77, .iload 4, 2, 0), (79, .iload 6, 2, 0), (81, .iadd, 1, 0), (82, .istore 4, 2, 0), (84, .iload_n 3, 1, 0), (85, .iload 6, 2, 0), (87, .isub, 1, 0), (88, .istore_n 3, 1, 0), (89, .iload_n 3, 1, 0), (90, .ifCond .le 15, 3, 0), (93, .iload 4, 2, 0), (95, .iload 7, 2, 0), (97, .iadd, 1, 0), (98, .istore 4, 2, 0), (100, .iload_n 2, 1, 0), (101, .iload 7, 2, 0), (103, .isub, 1, 0), (104, .istore_n 2, 1, 0), (105, .iinc 5 1, 3, 1), (108, .goto (-69), 3, 0), (111, .iload 4, 2, 0), (113, .ireturn, 1, 0)], [], [(289, 0, 4, 1, f_Md_having), (380, 1, 1, 1, f_Md_manyOf), (562, 0, 1, 1, f_Md_firmAt)], [], [], [(0, [0, 1]), (10, [0, 1, 2, 3, 4]), (39, [0, 1, 2, 3, 4, 5])], [], 2)
def f_Md_bulk : mm_F := fun args h => mm_ga [1, 1] args (mm_gd 12 args h (mm_run p_Md_bulk (mm_fu + 1) 0 args [] h))
set_option maxRecDepth 100000 in
theorem e_Md_bulk_0 (f : Nat) (t : Nat) (v1 : Int32) (h : mm_H) : mm_run p_Md_bulk (f + 1) 0 [.ref t, .int v1] [] h =
  mm_ci (f_Md_manyOf [.int v1] h) fun x2 h1 =>
  mm_run p_Md_bulk f 10 [.ref t, .int v1, .int x2, .int 0, .int 0] [] h1 := rfl
theorem e_Md_bulk (t : Nat) (v1 : Int32) (h : mm_H) {fs : List Value} (hb : h t = some (.inr (12, fs))) : f_Md_bulk [.ref t, .int v1] h =
  mm_ci (f_Md_manyOf [.int v1] h) fun x2 h1 =>
  mm_run p_Md_bulk mm_fu 10 [.ref t, .int v1, .int x2, .int 0, .int 0] [] h1 := (mm_ga_is rfl).trans ((mm_gd_is hb).trans (e_Md_bulk_0 mm_fu t v1 h))
set_option maxRecDepth 100000 in
theorem e_Md_bulk_10 (f : Nat) (t : Nat) (v1 : Int32) (v2 : Int32) (v3 : Int32) (v4 : Int32) (h : mm_H) : mm_run p_Md_bulk (f + 1) 10 [.ref t, .int v1, .int v2, .int v3, .int v4] [] h =
  if (999 : Int32) < v4 then
    mm_run p_Md_bulk f 39 [.ref t, .int v1, .int v2, .int v3, .int 0, .int 0] [] h
  else
    mm_ci (f_Md_firmAt [.ref t, .int v4] h) fun x2 h1 =>
    mm_run p_Md_bulk f 10 [.ref t, .int v1, .int v2, .int (v3 + x2), .int (v4 + 1)] [] h1 := rfl
set_option maxRecDepth 100000 in
theorem e_Md_bulk_39 (f : Nat) (t : Nat) (v1 : Int32) (v2 : Int32) (v3 : Int32) (v4 : Int32) (v5 : Int32) (h : mm_H) : mm_run p_Md_bulk (f + 1) 39 [.ref t, .int v1, .int v2, .int v3, .int v4, .int v5] [] h =
  if (999 : Int32) < v5 then
    some (some (.int v4), h)
  else
    if (0 : Int32) < v2 then
      if (0 : Int32) < v3 then
        mm_ci (f_Md_firmAt [.ref t, .int v5] h) fun x2 h1 =>
        mm_ci (f_Md_having [.ref t, .int 0, .int v1, .int 0, .int v5] h1) fun x4 h3 =>
        mm_ci (f_Md_manyOf [.int x4] h3) fun x6 h5 =>
        if (0 : Int32) < (v3 - x2) then
          mm_run p_Md_bulk f 39 [.ref t, .int v1, .int (v2 - x6), .int (v3 - x2), .int ((v4 + x2) + x6), .int (v5 + 1)] [] h5
        else
          mm_run p_Md_bulk f 39 [.ref t, .int v1, .int v2, .int (v3 - x2), .int (v4 + x2), .int (v5 + 1)] [] h5
      else
        some (some (.int v4), h)
    else
      some (some (.int v4), h) := rfl
set_option maxRecDepth 100000 in
theorem i_Md_bulk (l : Launch) : mm_Imp l yX12_bulk cX12_bulk 8 (some .int) 4 f_Md_bulk := mm_imp l (P := p_Md_bulk) mm_cls_ok mm_sys_ok (by decide) (mm_Pok_of (fun _ h => absurd h List.not_mem_nil) (List.forall_mem_cons.mpr ⟨v_Md_having l q_1776 (by decide), (List.forall_mem_cons.mpr ⟨v_Md_manyOf l (Or.inl q_2214) (by decide), (List.forall_mem_cons.mpr ⟨v_Md_firmAt l q_2478 (by decide), (fun _ h => absurd h List.not_mem_nil)⟩)⟩)⟩) (fun _ h => absurd h List.not_mem_nil) (fun _ h => absurd h List.not_mem_nil)) (by decide +kernel) rfl (cats := [1, 1]) (fun as h r e => ⟨(mm_ga_inv e).1, (mm_gd_inv (mm_ga_inv e).2).1⟩) rfl (by decide)
theorem v_Md_bulk (l : Launch) {own : String} {i n0 : Nat} (hl : Cond.methodLink own i yX12_bulk ∈ mm_tbl) (hn : 5 ≤ n0) : mm_cok l own n0 i (0, 1, 1, f_Md_bulk) := Or.inr (Or.inr ⟨rfl, yX12_bulk, cX12_bulk, 8, (some .int), 4, 12, TX12, 27, i_Md_bulk l, hn, by decide, by decide +kernel, rfl, fun _ _ _ e => (mm_gd_inv (mm_ga_inv e).2).2, hl, q_2476, q_160, q_179, q_2477⟩)
def p_Md_check : mm_P := ([(0, .aload_n 0, 1, 0), (1, .iconst 0, 1, 0), (2, .putfield 1, 3, 0), (5, .aload_n 0, 1, 0), (6, .iconst 0, 1, 0), (7, .invokevirtual 356, 3, 0), (10, .istore_n 2, 1, 0), (11, .iload_n 1, 1, 0), (12, .ifCond .ne 9, 3, 0), (15, .aload_n 0, 1, 0), (16, .iload_n 2, 1, 0), (17, .invokevirtual 565, 3, 0), (20, .ireturn, 1, 0), (21, .iload_n 2, 1, 0), (22, .invokestatic 380, 3, 0), (25, .istore_n 3, 1, 0), (26, .aload_n 0, 1, 0), (27, .invokevirtual 268, 3, 0), (30, .iconst 1, 1, 1), (31, .isub, 1, 0), (32, .istore 4, 2, 0), (34, .iload 4, 2, 0), (36, .ifCond .lt 42, 3, 0), (39, .aload_n 0, 1, 0), (40, .iload 4, 2, 0), (42, .invokevirtual 411, 3, 0), (45, .ifCond .ne 25, 3, 0), (48, .aload_n 0, 1, 0), (49, .iload 4, 2, 0), (51, .invokevirtual 299, 3, 0), (54, .iconst 3, 1, 3), (55, .if_icmp .eq 15, 3, 0), (58, .aload_n 0, 1, 0), (59, .iconst 0, 1, 0), (60, .iload 4, 2, 0), (62, .invokevirtual 329, 3, 0), (65, .iconst 1, 1, 1), (66, .iadd, 1, 0), (67, .goto 4, 3, 0), (70, .iload_n 3, 1, 0), (71, .istore_n 3, 1, 0), (72, .iinc 4 (-1), 3, (-1)), (75, .goto (-41), 3, 0), (78, .iconst 0, 1, 0), (79, .istore 4, 2, 0), (81, .iconst 0, 1, 0), (82, .istore 5, 2, 0), (84, .iload 5, 2, 0), (86, .aload_n 0, 1, 0), (87, .getfield 123, 3, 0), (90, .iconst 4, 1, 4), (91, .iaload, 1, 0), (92, .if_icmp .ge 45, 3, 0), (95, .iload 4, 2, 0), (97, .aload_n 0, 1, 0), (98, .getfield 123, 3, 0), (101, .bipush 43, 2, 43), (103, .iload 5, 2, 0), (105, .iadd, 1, 0), (106, .iaload, 1, 0), (107, .ifCond .ne 20, 3, 0), (110, .aload_n 0, 1, 0), (111, .getfield 123, 3, 0), (114, .bipush 55, 2, 55), (116, .iload 5, 2, 0), (118, .iadd, 1, 0), (119, .iaload, 1, 0), (120, .ifCond .lt 7, 3, 0), (123, .iconst 1, 1, 1), (124, .goto 4, 3, 0), (127, .iconst 0, 1, 0), (128, .iadd, 1, 0), (129, .istore 4, 2, 0), (131, .iinc 5 1, 3, 1), (134, .goto (-50), 3, 0), (137, .iload_n 1, 1, 0), (138, .iconst 1, 1, 1), (139, .if_icmp .ne 10, 3, 0), (142, .iload_n 3, 1, 0), (143, .iload 4, 2, 0), (145, .imul, 1, 0), (146, .goto 4, 3, 0), (149, .iconst (-1), 1, (-1)), (150, .ireturn, 1, 0)], [(1, 12, 0, 0), (123, 12, 14, 4)], [(268, 0, 0, 1, f_Md_indexes), (299, 0, 1, 1, f_Md_kindOf), (329, 0, 2, 1, f_Md_height), (356, 0, 1, 1, f_Md_chosenBy), (380, 1, 1, 1, f_Md_manyOf), (411, 0, 1, 1, f_Md_columnAt), (565, 0, 1, 1, f_Md_bulk)], [], [], [(0, [0, 1]), (34, [0, 1, 3, 4]), (84, [0, 1, 3, 4, 5])], [], 2)
def f_Md_check : mm_F := fun args h => mm_ga [1, 1] args (mm_gd 12 args h (mm_run p_Md_check (mm_fu + 1) 0 args [] h))
set_option maxRecDepth 100000 in
theorem e_Md_check_0 (f : Nat) (t : Nat) (v1 : Int32) (h : mm_H) : mm_run p_Md_check (f + 1) 0 [.ref t, .int v1] [] h =
  (mm_pf 12 0 (.int 0) h t).bind fun h1 =>
  mm_ci (f_Md_chosenBy [.ref t, .int 0] h1) fun x3 h2 =>
  if v1 = 0 then
    mm_ci (f_Md_bulk [.ref t, .int x3] h2) fun x5 h4 =>
    some (some (.int x5), h4)
  else
    mm_ci (f_Md_manyOf [.int x3] h2) fun x7 h6 =>
    mm_ci (f_Md_indexes [.ref t] h6) fun x9 h8 =>
    mm_run p_Md_check f 34 [.ref t, .int v1, .int x7, .int (x9 - 1)] [] h8 := rfl
theorem e_Md_check (t : Nat) (v1 : Int32) (h : mm_H) {fs : List Value} (hb : h t = some (.inr (12, fs))) : f_Md_check [.ref t, .int v1] h =
  (mm_pf 12 0 (.int 0) h t).bind fun h1 =>
  mm_ci (f_Md_chosenBy [.ref t, .int 0] h1) fun x3 h2 =>
  if v1 = 0 then
    mm_ci (f_Md_bulk [.ref t, .int x3] h2) fun x5 h4 =>
    some (some (.int x5), h4)
  else
    mm_ci (f_Md_manyOf [.int x3] h2) fun x7 h6 =>
    mm_ci (f_Md_indexes [.ref t] h6) fun x9 h8 =>
    mm_run p_Md_check mm_fu 34 [.ref t, .int v1, .int x7, .int (x9 - 1)] [] h8 := (mm_ga_is rfl).trans ((mm_gd_is hb).trans (e_Md_check_0 mm_fu t v1 h))
set_option maxRecDepth 100000 in
theorem e_Md_check_34 (f : Nat) (t : Nat) (v1 : Int32) (v3 : Int32) (v4 : Int32) (h : mm_H) : mm_run p_Md_check (f + 1) 34 [.ref t, .int v1, .int v3, .int v4] [] h =
  if v4 < 0 then
    mm_run p_Md_check f 84 [.ref t, .int v1, .int v3, .int 0, .int 0] [] h
  else
    mm_ci (f_Md_columnAt [.ref t, .int v4] h) fun x2 h1 =>
    if x2 = 0 then
      mm_ci (f_Md_kindOf [.ref t, .int v4] h1) fun x4 h3 =>
      if x4 = 3 then
        mm_run p_Md_check f 34 [.ref t, .int v1, .int v3, .int (v4 + (-1))] [] h3
      else
        mm_ci (f_Md_height [.ref t, .int 0, .int v4] h3) fun x6 h5 =>
        mm_run p_Md_check f 34 [.ref t, .int v1, .int (x6 + 1), .int (v4 + (-1))] [] h5
    else
      mm_run p_Md_check f 34 [.ref t, .int v1, .int v3, .int (v4 + (-1))] [] h1 := rfl
set_option maxRecDepth 100000 in
theorem e_Md_check_84 (f : Nat) (t : Nat) (v1 : Int32) (v3 : Int32) (v4 : Int32) (v5 : Int32) (h : mm_H) : mm_run p_Md_check (f + 1) 84 [.ref t, .int v1, .int v3, .int v4, .int v5] [] h =
  (mm_gr 12 14 h t).bind fun r1 =>
  (mm_li h r1 4).bind fun x2 =>
  if v5 < x2 then
    (mm_gr 12 14 h t).bind fun r3 =>
    (mm_li h r3 (43 + v5)).bind fun x4 =>
    if x4 = 0 then
      (mm_gr 12 14 h t).bind fun r5 =>
      (mm_li h r5 (55 + v5)).bind fun x6 =>
      if x6 < 0 then
        mm_run p_Md_check f 84 [.ref t, .int v1, .int v3, .int (v4 + 0), .int (v5 + 1)] [] h
      else
        mm_run p_Md_check f 84 [.ref t, .int v1, .int v3, .int (v4 + 1), .int (v5 + 1)] [] h
    else
      mm_run p_Md_check f 84 [.ref t, .int v1, .int v3, .int (v4 + 0), .int (v5 + 1)] [] h
  else
    if v1 = 1 then
      some (some (.int (v3 * v4)), h)
    else
      some (some (.int (-1)), h) := rfl
set_option maxRecDepth 100000 in
theorem i_Md_check (l : Launch) : mm_Imp l yX12_check cX12_check 6 (some .int) 8 f_Md_check := mm_imp l (P := p_Md_check) mm_cls_ok mm_sys_ok (by decide) (mm_Pok_of (List.forall_mem_cons.mpr ⟨k_X12_1, (List.forall_mem_cons.mpr ⟨k_X12_123, (fun _ h => absurd h List.not_mem_nil)⟩)⟩) (List.forall_mem_cons.mpr ⟨v_Md_indexes l q_1741 (by decide), (List.forall_mem_cons.mpr ⟨v_Md_kindOf l q_1749 (by decide), (List.forall_mem_cons.mpr ⟨v_Md_height l q_1799 (by decide), (List.forall_mem_cons.mpr ⟨v_Md_chosenBy l q_2237 (by decide), (List.forall_mem_cons.mpr ⟨v_Md_manyOf l (Or.inl q_2214) (by decide), (List.forall_mem_cons.mpr ⟨v_Md_columnAt l q_1787 (by decide), (List.forall_mem_cons.mpr ⟨v_Md_bulk l q_2474 (by decide), (fun _ h => absurd h List.not_mem_nil)⟩)⟩)⟩)⟩)⟩)⟩)⟩) (fun _ h => absurd h List.not_mem_nil) (fun _ h => absurd h List.not_mem_nil)) (by decide +kernel) rfl (cats := [1, 1]) (fun as h r e => ⟨(mm_ga_inv e).1, (mm_gd_inv (mm_ga_inv e).2).1⟩) rfl (by decide)
theorem v_Md_check (l : Launch) {own : String} {i n0 : Nat} (hl : Cond.methodLink own i yX12_check ∈ mm_tbl) (hn : 9 ≤ n0) : mm_cok l own n0 i (0, 1, 1, f_Md_check) := Or.inr (Or.inr ⟨rfl, yX12_check, cX12_check, 6, (some .int), 8, 12, TX12, 27, i_Md_check l, hn, by decide, by decide +kernel, rfl, fun _ _ _ e => (mm_gd_inv (mm_ga_inv e).2).2, hl, q_2471, q_2472, q_179, q_2473⟩)
