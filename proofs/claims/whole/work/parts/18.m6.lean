def p_Md_hinders_ : mm_P := ([(0, .aload_n 0, 1, 0), (1, .iconst 0, 1, 0), (2, .putfield 1, 3, 0), (5, .aload_n 0, 1, 0), (6, .iconst 0, 1, 0), (7, .invokevirtual 341, 3, 0), (10, .istore_n 1, 1, 0), (11, .aload_n 0, 1, 0), (12, .iconst 0, 1, 0), (13, .iload_n 1, 1, 0), (14, .invokevirtual 371, 3, 0), (17, .ireturn, 1, 0)], [(1, 12, 0, 0)], [(341, 0, 1, 1, f_Md_wouldChoose), (371, 0, 2, 1, f_Md_hindering)], [], [], [(0, [0])], [], 2)
def f_Md_hinders_ : mm_F := fun args h => mm_ga [1] args (mm_gd 12 args h (mm_run p_Md_hinders_ (mm_fu + 1) 0 args [] h))
set_option maxRecDepth 100000 in
theorem e_Md_hinders__0 (f : Nat) (t : Nat) (h : mm_H) : mm_run p_Md_hinders_ (f + 1) 0 [.ref t] [] h =
  (mm_pf 12 0 (.int 0) h t).bind fun h1 =>
  mm_ci (f_Md_wouldChoose [.ref t, .int 0] h1) fun x3 h2 =>
  mm_ci (f_Md_hindering [.ref t, .int 0, .int x3] h2) fun x5 h4 =>
  some (some (.int x5), h4) := rfl
theorem e_Md_hinders_ (t : Nat) (h : mm_H) {fs : List Value} (hb : h t = some (.inr (12, fs))) : f_Md_hinders_ [.ref t] h =
  (mm_pf 12 0 (.int 0) h t).bind fun h1 =>
  mm_ci (f_Md_wouldChoose [.ref t, .int 0] h1) fun x3 h2 =>
  mm_ci (f_Md_hindering [.ref t, .int 0, .int x3] h2) fun x5 h4 =>
  some (some (.int x5), h4) := (mm_ga_is rfl).trans ((mm_gd_is hb).trans (e_Md_hinders__0 mm_fu t h))
set_option maxRecDepth 100000 in
theorem i_Md_hinders_ (l : Launch) : mm_Imp l yX12_hinders_ cX12_hinders_ 2 (some .int) 7 f_Md_hinders_ := mm_imp l (P := p_Md_hinders_) mm_cls_ok mm_sys_ok (by decide) (mm_Pok_of (List.forall_mem_cons.mpr ⟨k_X12_1, (fun _ h => absurd h List.not_mem_nil)⟩) (List.forall_mem_cons.mpr ⟨v_Md_wouldChoose l q_2162 (by decide), (List.forall_mem_cons.mpr ⟨v_Md_hindering l q_2182 (by decide), (fun _ h => absurd h List.not_mem_nil)⟩)⟩) (fun _ h => absurd h List.not_mem_nil) (fun _ h => absurd h List.not_mem_nil)) (by decide +kernel) rfl (cats := [1]) (fun as h r e => ⟨(mm_ga_inv e).1, (mm_gd_inv (mm_ga_inv e).2).1⟩) rfl (by decide)
theorem v_Md_hinders_ (l : Launch) {own : String} {i n0 : Nat} (hl : Cond.methodLink own i yX12_hinders_ ∈ mm_tbl) (hn : 8 ≤ n0) : mm_cok l own n0 i (0, 0, 1, f_Md_hinders_) := Or.inr (Or.inr ⟨rfl, yX12_hinders_, cX12_hinders_, 2, (some .int), 7, 12, TX12, 27, i_Md_hinders_ l, hn, by decide, by decide +kernel, rfl, fun _ _ _ e => (mm_gd_inv (mm_ga_inv e).2).2, hl, q_2483, q_2484, q_179, q_2485⟩)
def p_Md_fits : mm_P := ([(0, .aload_n 0, 1, 0), (1, .iconst 0, 1, 0), (2, .putfield 1, 3, 0), (5, .iload_n 2, 1, 0), (6, .iconst 0, 1, 0), (7, .iconst 1, 1, 1), (8, .invokestatic 275, 3, 0), (11, .ifCond .eq 26, 3, 0), (14, .aload_n 0, 1, 0), (15, .iconst 0, 1, 0), (16, .iload_n 1, 1, 0), (17, .invokevirtual 434, 3, 0), (20, .ifCond .eq 17, 3, 0), (23, .aload_n 0, 1, 0), (24, .iconst 0, 1, 0), (25, .iload_n 2, 1, 0), (26, .iload_n 1, 1, 0), (27, .invokevirtual 302, 3, 0), (30, .ifCond .eq 7, 3, 0), (33, .iconst 1, 1, 1), (34, .goto 4, 3, 0), (37, .iconst 0, 1, 0), (38, .ireturn, 1, 0)], [(1, 12, 0, 0)], [(275, 1, 3, 1, f_Md_within), (302, 0, 3, 1, f_Md_isSo), (434, 0, 2, 1, f_Md_isVisible)], [], [], [(0, [0, 1, 2])], [], 1)
def f_Md_fits : mm_F := fun args h => mm_ga [1, 1, 1] args (mm_gd 12 args h (mm_run p_Md_fits (mm_fu + 1) 0 args [] h))
set_option maxRecDepth 100000 in
theorem e_Md_fits_0 (f : Nat) (t : Nat) (v1 : Int32) (v2 : Int32) (h : mm_H) : mm_run p_Md_fits (f + 1) 0 [.ref t, .int v1, .int v2] [] h =
  (mm_pf 12 0 (.int 0) h t).bind fun h1 =>
  mm_ci (f_Md_within [.int v2, .int 0, .int 1] h1) fun x3 h2 =>
  if x3 = 0 then
    some (some (.int 0), h2)
  else
    mm_ci (f_Md_isVisible [.ref t, .int 0, .int v1] h2) fun x5 h4 =>
    if x5 = 0 then
      some (some (.int 0), h4)
    else
      mm_ci (f_Md_isSo [.ref t, .int 0, .int v2, .int v1] h4) fun x7 h6 =>
      if x7 = 0 then
        some (some (.int 0), h6)
      else
        some (some (.int 1), h6) := rfl
theorem e_Md_fits (t : Nat) (v1 : Int32) (v2 : Int32) (h : mm_H) {fs : List Value} (hb : h t = some (.inr (12, fs))) : f_Md_fits [.ref t, .int v1, .int v2] h =
  (mm_pf 12 0 (.int 0) h t).bind fun h1 =>
  mm_ci (f_Md_within [.int v2, .int 0, .int 1] h1) fun x3 h2 =>
  if x3 = 0 then
    some (some (.int 0), h2)
  else
    mm_ci (f_Md_isVisible [.ref t, .int 0, .int v1] h2) fun x5 h4 =>
    if x5 = 0 then
      some (some (.int 0), h4)
    else
      mm_ci (f_Md_isSo [.ref t, .int 0, .int v2, .int v1] h4) fun x7 h6 =>
      if x7 = 0 then
        some (some (.int 0), h6)
      else
        some (some (.int 1), h6) := (mm_ga_is rfl).trans ((mm_gd_is hb).trans (e_Md_fits_0 mm_fu t v1 v2 h))
set_option maxRecDepth 100000 in
theorem i_Md_fits (l : Launch) : mm_Imp l yX12_fits cX12_fits 3 (some .boolean) 6 f_Md_fits := mm_imp l (P := p_Md_fits) mm_cls_ok mm_sys_ok (by decide) (mm_Pok_of (List.forall_mem_cons.mpr ⟨k_X12_1, (fun _ h => absurd h List.not_mem_nil)⟩) (List.forall_mem_cons.mpr ⟨v_Md_within l (Or.inl q_1769) (by decide), (List.forall_mem_cons.mpr ⟨v_Md_isSo l q_1753 (by decide), (List.forall_mem_cons.mpr ⟨v_Md_isVisible l q_2106 (by decide), (fun _ h => absurd h List.not_mem_nil)⟩)⟩)⟩) (fun _ h => absurd h List.not_mem_nil) (fun _ h => absurd h List.not_mem_nil)) (by decide +kernel) rfl (cats := [1, 1, 1]) (fun as h r e => ⟨(mm_ga_inv e).1, (mm_gd_inv (mm_ga_inv e).2).1⟩) rfl (by decide)
theorem v_Md_fits (l : Launch) {own : String} {i n0 : Nat} (hl : Cond.methodLink own i yX12_fits ∈ mm_tbl) (hn : 7 ≤ n0) : mm_cok l own n0 i (0, 2, 1, f_Md_fits) := Or.inr (Or.inr ⟨rfl, yX12_fits, cX12_fits, 3, (some .boolean), 6, 12, TX12, 27, i_Md_fits l, hn, by decide, by decide +kernel, rfl, fun _ _ _ e => (mm_gd_inv (mm_ga_inv e).2).2, hl, q_2487, q_2488, q_179, q_2489⟩)
def p_Md_needs : mm_P := ([(0, .aload_n 0, 1, 0), (1, .iconst 0, 1, 0), (2, .putfield 1, 3, 0), (5, .aload_n 0, 1, 0), (6, .iload_n 1, 1, 0), (7, .invokevirtual 481, 3, 0), (10, .ifCond .ne 5, 3, 0), (13, .iconst (-1), 1, (-1)), (14, .ireturn, 1, 0), (15, .aload_n 0, 1, 0), (16, .getfield 123, 3, 0), (19, .bipush 55, 2, 55), (21, .iload_n 1, 1, 0), (22, .iadd, 1, 0), (23, .iaload, 1, 0), (24, .istore_n 2, 1, 0), (25, .iload_n 2, 1, 0), (26, .ifCond .ge 7, 3, 0), (29, .iconst 0, 1, 0), (30, .goto 15, 3, 0), (33, .aload_n 0, 1, 0), (34, .iconst 0, 1, 0), (35, .aload_n 0, 1, 0), (36, .iconst 0, 1, 0), (37, .invokevirtual 279, 3, 0), (40, .iconst 0, 1, 0), (41, .iload_n 2, 1, 0), (42, .invokevirtual 289, 3, 0), (45, .ireturn, 1, 0)], [(1, 12, 0, 0), (123, 12, 14, 4)], [(279, 0, 1, 1, f_Md_visible), (289, 0, 4, 1, f_Md_having), (481, 0, 1, 1, f_Md_isPointer)], [], [], [(0, [0, 1])], [], 2)
def f_Md_needs : mm_F := fun args h => mm_ga [1, 1] args (mm_gd 12 args h (mm_run p_Md_needs (mm_fu + 1) 0 args [] h))
set_option maxRecDepth 100000 in
theorem e_Md_needs_0 (f : Nat) (t : Nat) (v1 : Int32) (h : mm_H) : mm_run p_Md_needs (f + 1) 0 [.ref t, .int v1] [] h =
  (mm_pf 12 0 (.int 0) h t).bind fun h1 =>
  mm_ci (f_Md_isPointer [.ref t, .int v1] h1) fun x3 h2 =>
  if x3 = 0 then
    some (some (.int (-1)), h2)
  else
    (mm_gr 12 14 h2 t).bind fun r4 =>
    (mm_li h2 r4 (55 + v1)).bind fun x5 =>
    if x5 < 0 then
      some (some (.int 0), h2)
    else
      mm_ci (f_Md_visible [.ref t, .int 0] h2) fun x7 h6 =>
      mm_ci (f_Md_having [.ref t, .int 0, .int x7, .int 0, .int x5] h6) fun x9 h8 =>
      some (some (.int x9), h8) := rfl
theorem e_Md_needs (t : Nat) (v1 : Int32) (h : mm_H) {fs : List Value} (hb : h t = some (.inr (12, fs))) : f_Md_needs [.ref t, .int v1] h =
  (mm_pf 12 0 (.int 0) h t).bind fun h1 =>
  mm_ci (f_Md_isPointer [.ref t, .int v1] h1) fun x3 h2 =>
  if x3 = 0 then
    some (some (.int (-1)), h2)
  else
    (mm_gr 12 14 h2 t).bind fun r4 =>
    (mm_li h2 r4 (55 + v1)).bind fun x5 =>
    if x5 < 0 then
      some (some (.int 0), h2)
    else
      mm_ci (f_Md_visible [.ref t, .int 0] h2) fun x7 h6 =>
      mm_ci (f_Md_having [.ref t, .int 0, .int x7, .int 0, .int x5] h6) fun x9 h8 =>
      some (some (.int x9), h8) := (mm_ga_is rfl).trans ((mm_gd_is hb).trans (e_Md_needs_0 mm_fu t v1 h))
set_option maxRecDepth 100000 in
theorem i_Md_needs (l : Launch) : mm_Imp l yX12_needs cX12_needs 3 (some .int) 4 f_Md_needs := mm_imp l (P := p_Md_needs) mm_cls_ok mm_sys_ok (by decide) (mm_Pok_of (List.forall_mem_cons.mpr ⟨k_X12_1, (List.forall_mem_cons.mpr ⟨k_X12_123, (fun _ h => absurd h List.not_mem_nil)⟩)⟩) (List.forall_mem_cons.mpr ⟨v_Md_visible l q_1772 (by decide), (List.forall_mem_cons.mpr ⟨v_Md_having l q_1776 (by decide), (List.forall_mem_cons.mpr ⟨v_Md_isPointer l q_2154 (by decide), (fun _ h => absurd h List.not_mem_nil)⟩)⟩)⟩) (fun _ h => absurd h List.not_mem_nil) (fun _ h => absurd h List.not_mem_nil)) (by decide +kernel) rfl (cats := [1, 1]) (fun as h r e => ⟨(mm_ga_inv e).1, (mm_gd_inv (mm_ga_inv e).2).1⟩) rfl (by decide)
theorem v_Md_needs (l : Launch) {own : String} {i n0 : Nat} (hl : Cond.methodLink own i yX12_needs ∈ mm_tbl) (hn : 5 ≤ n0) : mm_cok l own n0 i (0, 1, 1, f_Md_needs) := Or.inr (Or.inr ⟨rfl, yX12_needs, cX12_needs, 3, (some .int), 4, 12, TX12, 27, i_Md_needs l, hn, by decide, by decide +kernel, rfl, fun _ _ _ e => (mm_gd_inv (mm_ga_inv e).2).2, hl, q_2491, q_2492, q_179, q_2493⟩)
def p_Md_free : mm_P := ([(0, .aload_n 0, 1, 0), (1, .iconst 0, 1, 0), (2, .putfield 1, 3, 0), (5, .aload_n 0, 1, 0), (6, .iconst 0, 1, 0), (7, .iload_n 1, 1, 0), (8, .invokevirtual 434, 3, 0), (11, .ifCond .eq 16, 3, 0), (14, .aload_n 0, 1, 0), (15, .iconst 0, 1, 0), (16, .iload_n 1, 1, 0), (17, .invokevirtual 437, 3, 0), (20, .ifCond .eq 7, 3, 0), (23, .iconst 1, 1, 1), (24, .goto 4, 3, 0), (27, .iconst 0, 1, 0), (28, .ireturn, 1, 0)], [(1, 12, 0, 0)], [(434, 0, 2, 1, f_Md_isVisible), (437, 0, 2, 1, f_Md_canGo)], [], [], [(0, [0, 1])], [], 1)
def f_Md_free : mm_F := fun args h => mm_ga [1, 1] args (mm_gd 12 args h (mm_run p_Md_free (mm_fu + 1) 0 args [] h))
set_option maxRecDepth 100000 in
theorem e_Md_free_0 (f : Nat) (t : Nat) (v1 : Int32) (h : mm_H) : mm_run p_Md_free (f + 1) 0 [.ref t, .int v1] [] h =
  (mm_pf 12 0 (.int 0) h t).bind fun h1 =>
  mm_ci (f_Md_isVisible [.ref t, .int 0, .int v1] h1) fun x3 h2 =>
  if x3 = 0 then
    some (some (.int 0), h2)
  else
    mm_ci (f_Md_canGo [.ref t, .int 0, .int v1] h2) fun x5 h4 =>
    if x5 = 0 then
      some (some (.int 0), h4)
    else
      some (some (.int 1), h4) := rfl
theorem e_Md_free (t : Nat) (v1 : Int32) (h : mm_H) {fs : List Value} (hb : h t = some (.inr (12, fs))) : f_Md_free [.ref t, .int v1] h =
  (mm_pf 12 0 (.int 0) h t).bind fun h1 =>
  mm_ci (f_Md_isVisible [.ref t, .int 0, .int v1] h1) fun x3 h2 =>
  if x3 = 0 then
    some (some (.int 0), h2)
  else
    mm_ci (f_Md_canGo [.ref t, .int 0, .int v1] h2) fun x5 h4 =>
    if x5 = 0 then
      some (some (.int 0), h4)
    else
      some (some (.int 1), h4) := (mm_ga_is rfl).trans ((mm_gd_is hb).trans (e_Md_free_0 mm_fu t v1 h))
set_option maxRecDepth 100000 in
theorem i_Md_free (l : Launch) : mm_Imp l yX12_free cX12_free 2 (some .boolean) 8 f_Md_free := mm_imp l (P := p_Md_free) mm_cls_ok mm_sys_ok (by decide) (mm_Pok_of (List.forall_mem_cons.mpr ⟨k_X12_1, (fun _ h => absurd h List.not_mem_nil)⟩) (List.forall_mem_cons.mpr ⟨v_Md_isVisible l q_2106 (by decide), (List.forall_mem_cons.mpr ⟨v_Md_canGo l q_2110 (by decide), (fun _ h => absurd h List.not_mem_nil)⟩)⟩) (fun _ h => absurd h List.not_mem_nil) (fun _ h => absurd h List.not_mem_nil)) (by decide +kernel) rfl (cats := [1, 1]) (fun as h r e => ⟨(mm_ga_inv e).1, (mm_gd_inv (mm_ga_inv e).2).1⟩) rfl (by decide)
theorem v_Md_free (l : Launch) {own : String} {i n0 : Nat} (hl : Cond.methodLink own i yX12_free ∈ mm_tbl) (hn : 9 ≤ n0) : mm_cok l own n0 i (0, 1, 1, f_Md_free) := Or.inr (Or.inr ⟨rfl, yX12_free, cX12_free, 2, (some .boolean), 8, 12, TX12, 27, i_Md_free l, hn, by decide, by decide +kernel, rfl, fun _ _ _ e => (mm_gd_inv (mm_ga_inv e).2).2, hl, q_2495, q_2496, q_179, q_2497⟩)
def p_Md_would : mm_P := ([(0, .aload_n 0, 1, 0), (1, .iconst 0, 1, 0), (2, .putfield 1, 3, 0), (5, .iload_n 1, 1, 0), (6, .invokestatic 461, 3, 0), (9, .ifCond .eq 17, 3, 0), (12, .iload_n 2, 1, 0), (13, .invokestatic 461, 3, 0), (16, .ifCond .eq 10, 3, 0), (19, .iload_n 3, 1, 0), (20, .invokestatic 461, 3, 0), (23, .ifCond .ne 5, 3, 0), (26, .iconst (-1), 1, (-1)), (27, .ireturn, 1, 0), (28, .aload_n 0, 1, 0), (29, .getfield 123, 3, 0), (32, .iconst 2, 1, 2), (33, .iaload, 1, 0), (34, .bipush 30, 2, 30), (36, .if_icmp .ne 12, 3, 0), (39, .iconst 1, 1, 1), (40, .aload_n 0, 1, 0), (41, .invokevirtual 268, 3, 0), (44, .ishl, 1, 0), (45, .iconst 1, 1, 1), (46, .isub, 1, 0), (47, .ireturn, 1, 0), (48, .aload_n 0, 1, 0), (49, .iconst 0, 1, 0), (50, .iconst 0, 1, 0), (51, .iload_n 1, 1, 0), (52, .iconst (-1), 1, (-1)), (53, .invokevirtual 420, 3, 0), (56, .aload_n 0, 1, 0), (57, .iconst 0, 1, 0), (58, .iconst 1, 1, 1), (59, .iload_n 2, 1, 0), (60, .iconst (-1), 1, (-1)), (61, .invokevirtual 420, 3, 0), (64, .ior, 1, 0), (65, .aload_n 0, 1, 0), (66, .iconst 0, 1, 0), (67, .iconst 2, 1, 2), (68, .iload_n 3, 1, 0), (69, .iconst (-1), 1, (-1)), (70, .invokevirtual 420, 3, 0), (73, .ior, 1, 0), (74, .ireturn, 1, 0)], [(1, 12, 0, 0), (123, 12, 14, 4)], [(268, 0, 0, 1, f_Md_indexes), (420, 0, 4, 1, f_Md_onceClash), (461, 1, 1, 1, f_Md_isValue)], [], [], [(0, [0, 1, 2, 3])], [], 2)
def f_Md_would : mm_F := fun args h => mm_ga [1, 1, 1, 1] args (mm_gd 12 args h (mm_run p_Md_would (mm_fu + 1) 0 args [] h))
set_option maxRecDepth 100000 in
theorem e_Md_would_0 (f : Nat) (t : Nat) (v1 : Int32) (v2 : Int32) (v3 : Int32) (h : mm_H) : mm_run p_Md_would (f + 1) 0 [.ref t, .int v1, .int v2, .int v3] [] h =
  (mm_pf 12 0 (.int 0) h t).bind fun h1 =>
  mm_ci (f_Md_isValue [.int v1] h1) fun x3 h2 =>
  if x3 = 0 then
    some (some (.int (-1)), h2)
  else
    mm_ci (f_Md_isValue [.int v2] h2) fun x5 h4 =>
    if x5 = 0 then
      some (some (.int (-1)), h4)
    else
      mm_ci (f_Md_isValue [.int v3] h4) fun x7 h6 =>
      if x7 = 0 then
        some (some (.int (-1)), h6)
      else
        (mm_gr 12 14 h6 t).bind fun r8 =>
        (mm_li h6 r8 2).bind fun x9 =>
        if x9 = 30 then
          mm_ci (f_Md_indexes [.ref t] h6) fun x11 h10 =>
          some (some (.int ((1 <<< (x11 &&& 31)) - 1)), h10)
        else
          mm_ci (f_Md_onceClash [.ref t, .int 0, .int 0, .int v1, .int (-1)] h6) fun x13 h12 =>
          mm_ci (f_Md_onceClash [.ref t, .int 0, .int 1, .int v2, .int (-1)] h12) fun x15 h14 =>
          mm_ci (f_Md_onceClash [.ref t, .int 0, .int 2, .int v3, .int (-1)] h14) fun x17 h16 =>
          some (some (.int ((x13 ||| x15) ||| x17)), h16) := rfl
theorem e_Md_would (t : Nat) (v1 : Int32) (v2 : Int32) (v3 : Int32) (h : mm_H) {fs : List Value} (hb : h t = some (.inr (12, fs))) : f_Md_would [.ref t, .int v1, .int v2, .int v3] h =
  (mm_pf 12 0 (.int 0) h t).bind fun h1 =>
  mm_ci (f_Md_isValue [.int v1] h1) fun x3 h2 =>
  if x3 = 0 then
    some (some (.int (-1)), h2)
  else
    mm_ci (f_Md_isValue [.int v2] h2) fun x5 h4 =>
    if x5 = 0 then
      some (some (.int (-1)), h4)
    else
      mm_ci (f_Md_isValue [.int v3] h4) fun x7 h6 =>
      if x7 = 0 then
        some (some (.int (-1)), h6)
      else
        (mm_gr 12 14 h6 t).bind fun r8 =>
        (mm_li h6 r8 2).bind fun x9 =>
        if x9 = 30 then
          mm_ci (f_Md_indexes [.ref t] h6) fun x11 h10 =>
          some (some (.int ((1 <<< (x11 &&& 31)) - 1)), h10)
        else
          mm_ci (f_Md_onceClash [.ref t, .int 0, .int 0, .int v1, .int (-1)] h6) fun x13 h12 =>
          mm_ci (f_Md_onceClash [.ref t, .int 0, .int 1, .int v2, .int (-1)] h12) fun x15 h14 =>
          mm_ci (f_Md_onceClash [.ref t, .int 0, .int 2, .int v3, .int (-1)] h14) fun x17 h16 =>
          some (some (.int ((x13 ||| x15) ||| x17)), h16) := (mm_ga_is rfl).trans ((mm_gd_is hb).trans (e_Md_would_0 mm_fu t v1 v2 v3 h))
set_option maxRecDepth 100000 in
theorem i_Md_would (l : Launch) : mm_Imp l yX12_would cX12_would 4 (some .int) 5 f_Md_would := mm_imp l (P := p_Md_would) mm_cls_ok mm_sys_ok (by decide) (mm_Pok_of (List.forall_mem_cons.mpr ⟨k_X12_1, (List.forall_mem_cons.mpr ⟨k_X12_123, (fun _ h => absurd h List.not_mem_nil)⟩)⟩) (List.forall_mem_cons.mpr ⟨v_Md_indexes l q_1741 (by decide), (List.forall_mem_cons.mpr ⟨v_Md_onceClash l q_2070 (by decide), (List.forall_mem_cons.mpr ⟨v_Md_isValue l (Or.inl q_2063) (by decide), (fun _ h => absurd h List.not_mem_nil)⟩)⟩)⟩) (fun _ h => absurd h List.not_mem_nil) (fun _ h => absurd h List.not_mem_nil)) (by decide +kernel) rfl (cats := [1, 1, 1, 1]) (fun as h r e => ⟨(mm_ga_inv e).1, (mm_gd_inv (mm_ga_inv e).2).1⟩) rfl (by decide)
theorem v_Md_would (l : Launch) {own : String} {i n0 : Nat} (hl : Cond.methodLink own i yX12_would ∈ mm_tbl) (hn : 6 ≤ n0) : mm_cok l own n0 i (0, 3, 1, f_Md_would) := Or.inr (Or.inr ⟨rfl, yX12_would, cX12_would, 4, (some .int), 5, 12, TX12, 27, i_Md_would l, hn, by decide, by decide +kernel, rfl, fun _ _ _ e => (mm_gd_inv (mm_ga_inv e).2).2, hl, q_2499, q_2500, q_179, q_2501⟩)
def p_Md_count : mm_P := ([(0, .aload_n 0, 1, 0), (1, .iconst 0, 1, 0), (2, .putfield 1, 3, 0), (5, .iload_n 1, 1, 0), (6, .tableswitch 115 0 9 #[54, 59, 66, 71, 78, 84, 91, 98, 105, 110], 54, 0), (60, .aload_n 0, 1, 0), (61, .invokevirtual 320, 3, 0), (64, .ireturn, 1, 0), (65, .aload_n 0, 1, 0), (66, .getfield 111, 3, 0), (69, .iconst 1, 1, 1), (70, .iaload, 1, 0), (71, .ireturn, 1, 0), (72, .aload_n 0, 1, 0), (73, .invokevirtual 268, 3, 0), (76, .ireturn, 1, 0), (77, .aload_n 0, 1, 0), (78, .getfield 123, 3, 0), (81, .iconst 2, 1, 2), (82, .iaload, 1, 0), (83, .ireturn, 1, 0), (84, .aload_n 0, 1, 0), (85, .iconst 0, 1, 0), (86, .invokevirtual 279, 3, 0), (89, .ireturn, 1, 0), (90, .aload_n 0, 1, 0), (91, .getfield 123, 3, 0), (94, .iconst 4, 1, 4), (95, .iaload, 1, 0), (96, .ireturn, 1, 0), (97, .aload_n 0, 1, 0), (98, .getfield 123, 3, 0), (101, .iconst 3, 1, 3), (102, .iaload, 1, 0), (103, .ireturn, 1, 0), (104, .aload_n 0, 1, 0), (105, .getfield 120, 3, 0), (108, .iconst 0, 1, 0), (109, .iaload, 1, 0), (110, .ireturn, 1, 0), (111, .aload_n 0, 1, 0), (112, .getfield 449, 3, 0), (115, .ireturn, 1, 0), (116, .aload_n 0, 1, 0), (117, .getfield 11, 3, 0), (120, .ireturn, 1, 0), (121, .iconst (-1), 1, (-1)), (122, .ireturn, 1, 0)], [(1, 12, 0, 0), (11, 12, 2, 0), (111, 12, 10, 4), (120, 12, 13, 4), (123, 12, 14, 4), (449, 12, 15, 0)], [(268, 0, 0, 1, f_Md_indexes), (279, 0, 1, 1, f_Md_visible), (320, 0, 0, 1, f_Md_page)], [], [], [(0, [0, 1])], [(6, [(0, 60), (1, 65), (2, 72), (3, 77), (4, 84), (5, 90), (6, 97), (7, 104), (8, 111), (9, 116)], 121)], 2)
def f_Md_count : mm_F := fun args h => mm_ga [1, 1] args (mm_gd 12 args h (mm_run p_Md_count (mm_fu + 1) 0 args [] h))
set_option maxRecDepth 100000 in
theorem e_Md_count_0 (f : Nat) (t : Nat) (v1 : Int32) (h : mm_H) : mm_run p_Md_count (f + 1) 0 [.ref t, .int v1] [] h =
  (mm_pf 12 0 (.int 0) h t).bind fun h1 =>
  if v1 = 0 then
    mm_ci (f_Md_page [.ref t] h1) fun x3 h2 =>
    some (some (.int x3), h2)
  else if v1 = 1 then
    (mm_gr 12 10 h1 t).bind fun r4 =>
    (mm_li h1 r4 1).bind fun x5 =>
    some (some (.int x5), h1)
  else if v1 = 2 then
    mm_ci (f_Md_indexes [.ref t] h1) fun x7 h6 =>
    some (some (.int x7), h6)
  else if v1 = 3 then
    (mm_gr 12 14 h1 t).bind fun r8 =>
    (mm_li h1 r8 2).bind fun x9 =>
    some (some (.int x9), h1)
  else if v1 = 4 then
    mm_ci (f_Md_visible [.ref t, .int 0] h1) fun x11 h10 =>
    some (some (.int x11), h10)
  else if v1 = 5 then
    (mm_gr 12 14 h1 t).bind fun r12 =>
    (mm_li h1 r12 4).bind fun x13 =>
    some (some (.int x13), h1)
  else if v1 = 6 then
    (mm_gr 12 14 h1 t).bind fun r14 =>
    (mm_li h1 r14 3).bind fun x15 =>
    some (some (.int x15), h1)
  else if v1 = 7 then
    (mm_gr 12 13 h1 t).bind fun r16 =>
    (mm_li h1 r16 0).bind fun x17 =>
    some (some (.int x17), h1)
  else if v1 = 8 then
    (mm_gi 12 15 h1 t).bind fun x18 =>
    some (some (.int x18), h1)
  else if v1 = 9 then
    (mm_gi 12 2 h1 t).bind fun x19 =>
    some (some (.int x19), h1)
  else 
    some (some (.int (-1)), h1) := rfl
theorem e_Md_count (t : Nat) (v1 : Int32) (h : mm_H) {fs : List Value} (hb : h t = some (.inr (12, fs))) : f_Md_count [.ref t, .int v1] h =
  (mm_pf 12 0 (.int 0) h t).bind fun h1 =>
  if v1 = 0 then
    mm_ci (f_Md_page [.ref t] h1) fun x3 h2 =>
    some (some (.int x3), h2)
  else if v1 = 1 then
    (mm_gr 12 10 h1 t).bind fun r4 =>
    (mm_li h1 r4 1).bind fun x5 =>
    some (some (.int x5), h1)
  else if v1 = 2 then
    mm_ci (f_Md_indexes [.ref t] h1) fun x7 h6 =>
    some (some (.int x7), h6)
  else if v1 = 3 then
    (mm_gr 12 14 h1 t).bind fun r8 =>
    (mm_li h1 r8 2).bind fun x9 =>
    some (some (.int x9), h1)
  else if v1 = 4 then
    mm_ci (f_Md_visible [.ref t, .int 0] h1) fun x11 h10 =>
    some (some (.int x11), h10)
  else if v1 = 5 then
    (mm_gr 12 14 h1 t).bind fun r12 =>
    (mm_li h1 r12 4).bind fun x13 =>
    some (some (.int x13), h1)
  else if v1 = 6 then
    (mm_gr 12 14 h1 t).bind fun r14 =>
    (mm_li h1 r14 3).bind fun x15 =>
    some (some (.int x15), h1)
  else if v1 = 7 then
    (mm_gr 12 13 h1 t).bind fun r16 =>
    (mm_li h1 r16 0).bind fun x17 =>
    some (some (.int x17), h1)
  else if v1 = 8 then
    (mm_gi 12 15 h1 t).bind fun x18 =>
    some (some (.int x18), h1)
  else if v1 = 9 then
    (mm_gi 12 2 h1 t).bind fun x19 =>
    some (some (.int x19), h1)
  else 
    some (some (.int (-1)), h1) := (mm_ga_is rfl).trans ((mm_gd_is hb).trans (e_Md_count_0 mm_fu t v1 h))
set_option maxRecDepth 100000 in
theorem i_Md_count (l : Launch) : mm_Imp l yX12_count cX12_count 2 (some .int) 2 f_Md_count := mm_imp l (P := p_Md_count) mm_cls_ok mm_sys_ok (by decide) (mm_Pok_of (List.forall_mem_cons.mpr ⟨k_X12_1, (List.forall_mem_cons.mpr ⟨k_X12_11, (List.forall_mem_cons.mpr ⟨k_X12_111, (List.forall_mem_cons.mpr ⟨k_X12_120, (List.forall_mem_cons.mpr ⟨k_X12_123, (List.forall_mem_cons.mpr ⟨k_X12_449, (fun _ h => absurd h List.not_mem_nil)⟩)⟩)⟩)⟩)⟩)⟩) (List.forall_mem_cons.mpr ⟨v_Md_indexes l q_1741 (by decide), (List.forall_mem_cons.mpr ⟨v_Md_visible l q_1772 (by decide), (List.forall_mem_cons.mpr ⟨v_Md_page l q_1819 (by decide), (fun _ h => absurd h List.not_mem_nil)⟩)⟩)⟩) (fun _ h => absurd h List.not_mem_nil) (fun _ h => absurd h List.not_mem_nil)) (by decide +kernel) rfl (cats := [1, 1]) (fun as h r e => ⟨(mm_ga_inv e).1, (mm_gd_inv (mm_ga_inv e).2).1⟩) rfl (by decide)
theorem v_Md_count (l : Launch) {own : String} {i n0 : Nat} (hl : Cond.methodLink own i yX12_count ∈ mm_tbl) (hn : 3 ≤ n0) : mm_cok l own n0 i (0, 1, 1, f_Md_count) := Or.inr (Or.inr ⟨rfl, yX12_count, cX12_count, 2, (some .int), 2, 12, TX12, 27, i_Md_count l, hn, by decide, by decide +kernel, rfl, fun _ _ _ e => (mm_gd_inv (mm_ga_inv e).2).2, hl, q_2503, q_2504, q_179, q_2505⟩)
