/-! CLASS AND REFERENCE together: a call answers alike -/
def inn (n : Nat) : Prop := 1 ≤ n ∧ n ≤ 633
/-- cursors alike: both on no index, or the same -/
def cuR (P : PP) (cu c2 : CU) : Prop := (cu.1 = -1 ∧ c2.1 = -1) ∨ (cu = c2 ∧ isIx P cu.1 = true)
def FW (G : GG) : Prop := ∃ p q l m B K S A U cu c2, CX G p q l m B K S A U cu ∧ MX G B K S A U c2 ∧ (okTB B ∧ nDis (tIx B) ∧ okWk (pOf B) K) ∧ cuR (pOf B) cu c2
def JN (fc fr : mm_H → mm_O) (G : GG) : Prop := ∃ v G1 G2, fc (hp G) = some (some (.int v), hp G1) ∧ fr (hp G1) = some (some (.int v), hp G2) ∧ FW G2 ∧ eqOff inn G G1 ∧ eqOff inn G G2
section JNS
variable {G : GG} {p q l m : Nat} {A A' : AS} {U U' : List AS} {cu cu' c2 c2' : CU} {B : TB} {K : List LI} {S : List Nat} {fc fr : mm_H → mm_O} {v : Int32}
theorem fixR.lo {G G' : GG} (h : fixR G G') : eqOff clR G G' := h.1.mono (fun n hn => by unfold wR at hn; exact ⟨by omega, by omega⟩)
theorem fixM.hi {G G' : GG} (h : fixM G G') : eqOff mR G G' := fun n hn => ⟨h.1 n (fun e => hn ⟨by omega, by omega⟩) (fun e => hn ⟨by omega, by omega⟩), by rw [h.2.1], by rw [h.2.1]⟩
theorem fixR.in1 {G G' : GG} (h : fixR G G') : eqOff inn G G' := h.1.mono (fun n hn => by unfold wR at hn; exact ⟨by omega, by omega⟩)
theorem mR_in {n : Nat} (h : mR n) : inn n := ⟨by have := h.1; omega, h.2⟩
theorem ope_ok {P : PP} (hc : cuR P cu c2) (x y : Int32) : cuR P (opeC P cu x y) (opeC P c2 x y) := by
  unfold opeC
  split
  · rename_i h; exact Or.inr ⟨rfl, h⟩
  · exact hc
theorem ix_m1 (P : PP) {cu : CU} (h : cu.1 = -1) : isIx P cu.1 = false := by
  rw [h]
  rfl
theorem fet_no (P : PP) (A : AS) {cu : CU} (h : cu.1 = -1) : fetW P A cu = (-1, cu) := by
  unfold fetW
  rw [ix_m1 P h]
  rfl
theorem fet_ok {P : PP} (hi : isIx P cu.1 = true) : isIx P (fetW P A cu).2.1 = true := by
  unfold fetW
  rw [if_pos hi]
  split
  · exact hi
  · exact hi
/-- both, one behind the other -/
theorem jc (C : CX G p q l m B K S A U cu) (M : MX G B K S A U c2) (hb : okTB B ∧ nDis (tIx B) ∧ okWk (pOf B) K) (hc : cuR (pOf B) cu' c2') (h1 : ∃ G', fc (hp G) = some (some (.int v), hp G') ∧ CW G G' p (pOf B) (tOf B) A' U' cu') (h2 : ∀ H, MX H B K S A U c2 → ∃ G', fr (hp H) = some (some (.int v), hp G') ∧ MW H G' (pOf B) (tOf B) A' U' c2') : JN fc fr G := by
  obtain ⟨G1, a1, W1⟩ := h1
  have z1 : fixR G G1 := W1.2.2.2.2.2.2
  have C1 := C.of W1
  have M1 := M.low hb.1.2.1.1 z1.lo (fun n hn => hn.2)
  obtain ⟨G2, b1, V⟩ := h2 G1 M1
  have z2 : fixM G1 G2 := V.fix
  exact ⟨v, G1, G2, a1, b1, ⟨p, q, l, m, B, K, S, A', U', cu', c2', C1.high z2.hi (fun n hn => hn.1), M1.of V, hb, hc⟩, z1.in1, z1.in1.tr (z2.hi.mono (fun n hn => mR_in hn))⟩
/-- a table, a work, a feeding: the tape changes too -/
theorem jx {p' q' l' m' : Nat} {B' : TB} {K' : List LI} {S' : List Nat} (M : MX G B K S A U c2) (h4 : (tIx B).length ≤ 4) (hb : okTB B' ∧ nDis (tIx B') ∧ okWk (pOf B') K') (hc : cuR (pOf B') cu' c2') (h1 : ∃ G', fc (hp G) = some (some (.int v), hp G') ∧ CX G' p' q' l' m' B' K' S' A' U' cu' ∧ eqOff clR G G') (h2 : ∀ H, MX H B K S A U c2 → ∃ G', fr (hp H) = some (some (.int v), hp G') ∧ MX G' B' K' S' A' U' c2' ∧ eqOff mR H G') : JN fc fr G := by
  obtain ⟨G1, a1, C1, z1⟩ := h1
  have M1 := M.low h4 z1 (fun n hn => hn.2)
  obtain ⟨G2, b1, M2, z2⟩ := h2 G1 M1
  exact ⟨v, G1, G2, a1, b1, ⟨p', q', l', m', B', K', S', A', U', cu', c2', C1.high z2 (fun n hn => hn.1), M2, hb, hc⟩, z1.mono (fun n hn => ⟨hn.1, by have := hn.2; omega⟩), (z1.mono (fun n hn => ⟨hn.1, by have := hn.2; omega⟩)).tr (z2.mono (fun n hn => mR_in hn))⟩
theorem b_row (F : FW G) (x y : Int32) : JN (f_Ls_row [.ref 1, .int x, .int y]) (f_Md_row [.ref 618, .int x, .int y]) G := by
  obtain ⟨p, q, l, m, B, K, S, A, U, cu, c2, C, M, hb, hc⟩ := F
  exact jc C M hb hc (⟨G, k_row C.1 x y, C.1⟩) (fun H N => r_row N.1 x y)
theorem b_index (F : FW G) (x y : Int32) : JN (f_Ls_index [.ref 1, .int x, .int y]) (f_Md_index [.ref 618, .int x, .int y]) G := by
  obtain ⟨p, q, l, m, B, K, S, A, U, cu, c2, C, M, hb, hc⟩ := F
  exact jc C M hb hc (⟨G, k_index C.1 x y, C.1⟩) (fun H N => r_index N.1 x y)
theorem b_leaf (F : FW G) (x y z : Int32) : JN (f_Ls_leaf [.ref 1, .int x, .int y, .int z]) (f_Md_leaf [.ref 618, .int x, .int y, .int z]) G := by
  obtain ⟨p, q, l, m, B, K, S, A, U, cu, c2, C, M, hb, hc⟩ := F
  exact jc C M hb hc (⟨G, k_leaf C.1 x y z, C.1⟩) (fun H N => r_leaf N.1 x y z)
theorem b_pointer (F : FW G) (x y : Int32) : JN (f_Ls_pointer [.ref 1, .int x, .int y]) (f_Md_pointer [.ref 618, .int x, .int y]) G := by
  obtain ⟨p, q, l, m, B, K, S, A, U, cu, c2, C, M, hb, hc⟩ := F
  exact jc C M hb hc (⟨G, k_pointer C.1 x y, C.1⟩) (fun H N => r_pointer N.1 x y)
theorem b_found (F : FW G) (x y : Int32) : JN (f_Ls_found [.ref 1, .int x, .int y]) (f_Md_found [.ref 618, .int x, .int y]) G := by
  obtain ⟨p, q, l, m, B, K, S, A, U, cu, c2, C, M, hb, hc⟩ := F
  exact jc C M hb hc (⟨G, k_found C.1 x y, C.1⟩) (fun H N => r_found N.1 x y)
theorem b_skips (F : FW G) (x y : Int32) : JN (f_Ls_skips [.ref 1, .int x, .int y]) (f_Md_skips [.ref 618, .int x, .int y]) G := by
  obtain ⟨p, q, l, m, B, K, S, A, U, cu, c2, C, M, hb, hc⟩ := F
  exact jc C M hb hc (⟨G, k_skips C.1 x y, C.1⟩) (fun H N => r_skips N.1 x y)
theorem b_stale (F : FW G) (x : Int32) : JN (f_Ls_stale [.ref 1, .int x]) (f_Md_stale [.ref 618, .int x]) G := by
  obtain ⟨p, q, l, m, B, K, S, A, U, cu, c2, C, M, hb, hc⟩ := F
  exact jc C M hb hc (⟨G, k_stale C.1 x, C.1⟩) (fun H N => r_stale N.1 x)
theorem b_missing (F : FW G) (x : Int32) : JN (f_Ls_missing [.ref 1, .int x]) (f_Md_missing [.ref 618, .int x]) G := by
  obtain ⟨p, q, l, m, B, K, S, A, U, cu, c2, C, M, hb, hc⟩ := F
  exact jc C M hb hc (⟨G, k_missing C.1 x, C.1⟩) (fun H N => r_missing N.1 x)
theorem b_side (F : FW G) (x : Int32) : JN (f_Ls_side [.ref 1, .int x]) (f_Md_side [.ref 618, .int x]) G := by
  obtain ⟨p, q, l, m, B, K, S, A, U, cu, c2, C, M, hb, hc⟩ := F
  exact jc C M hb hc (⟨G, k_side C.1 x, C.1⟩) (fun H N => r_side N.1 x)
theorem b_splits (F : FW G) (x y : Int32) : JN (f_Ls_splits [.ref 1, .int x, .int y]) (f_Md_splits [.ref 618, .int x, .int y]) G := by
  obtain ⟨p, q, l, m, B, K, S, A, U, cu, c2, C, M, hb, hc⟩ := F
  exact jc C M hb hc (⟨G, k_splits C.1 x y, C.1⟩) (fun H N => r_splits N.1 x y)
theorem b_fill (F : FW G) (x : Int32) : JN (f_Ls_fill [.ref 1, .int x]) (f_Md_fill [.ref 618, .int x]) G := by
  obtain ⟨p, q, l, m, B, K, S, A, U, cu, c2, C, M, hb, hc⟩ := F
  exact jc C M hb hc (⟨G, k_fill C.1 x, C.1⟩) (fun H N => r_fill N.1 x)
theorem b_sparse (F : FW G) (x : Int32) : JN (f_Ls_sparse [.ref 1, .int x]) (f_Md_sparse [.ref 618, .int x]) G := by
  obtain ⟨p, q, l, m, B, K, S, A, U, cu, c2, C, M, hb, hc⟩ := F
  exact jc C M hb hc (⟨G, k_sparse C.1 x, C.1⟩) (fun H N => r_sparse N.1 x)
theorem b_costs (F : FW G) (x y : Int32) : JN (f_Ls_costs [.ref 1, .int x, .int y]) (f_Md_costs [.ref 618, .int x, .int y]) G := by
  obtain ⟨p, q, l, m, B, K, S, A, U, cu, c2, C, M, hb, hc⟩ := F
  exact jc C M hb hc (⟨G, k_costs C.1 x y, C.1⟩) (fun H N => r_costs N.1 x y)
theorem b_ways (F : FW G) : JN (f_Ls_ways [.ref 1]) (f_Md_ways [.ref 618]) G := by
  obtain ⟨p, q, l, m, B, K, S, A, U, cu, c2, C, M, hb, hc⟩ := F
  exact jc C M hb hc (⟨G, k_ways C.1, C.1⟩) (fun H N => r_ways N.1)
theorem b_turn (F : FW G) (x : Int32) : JN (f_Ls_turn [.ref 1, .int x]) (f_Md_turn [.ref 618, .int x]) G := by
  obtain ⟨p, q, l, m, B, K, S, A, U, cu, c2, C, M, hb, hc⟩ := F
  exact jc C M hb hc (⟨G, k_turn C.1 x, C.1⟩) (fun H N => r_turn N.1 x)
theorem b_lefts (F : FW G) (x y : Int32) : JN (f_Ls_lefts [.ref 1, .int x, .int y]) (f_Md_lefts [.ref 618, .int x, .int y]) G := by
  obtain ⟨p, q, l, m, B, K, S, A, U, cu, c2, C, M, hb, hc⟩ := F
  exact jc C M hb hc (⟨G, k_lefts C.1 x y, C.1⟩) (fun H N => r_lefts N.1 x y)
theorem b_next (F : FW G) (x y : Int32) : JN (f_Ls_next [.ref 1, .int x, .int y]) (f_Md_next [.ref 618, .int x, .int y]) G := by
  obtain ⟨p, q, l, m, B, K, S, A, U, cu, c2, C, M, hb, hc⟩ := F
  exact jc C M hb hc (⟨G, k_next C.1 x y, C.1⟩) (fun H N => r_next N.1 x y)
theorem b_job (F : FW G) (x : Int32) : JN (f_Ls_job [.ref 1, .int x]) (f_Md_job [.ref 618, .int x]) G := by
  obtain ⟨p, q, l, m, B, K, S, A, U, cu, c2, C, M, hb, hc⟩ := F
  exact jc C M hb hc (⟨G, k_job C.1 x, C.1⟩) (fun H N => r_job N.1 x)
theorem b_record (F : FW G) (x y : Int32) : JN (f_Ls_record [.ref 1, .int x, .int y]) (f_Md_record [.ref 618, .int x, .int y]) G := by
  obtain ⟨p, q, l, m, B, K, S, A, U, cu, c2, C, M, hb, hc⟩ := F
  exact jc C M hb hc (⟨G, k_record C.1 x y, C.1⟩) (fun H N => r_record N.1 x y)
theorem b_steps (F : FW G) : JN (f_Ls_steps [.ref 1]) (f_Md_steps [.ref 618]) G := by
  obtain ⟨p, q, l, m, B, K, S, A, U, cu, c2, C, M, hb, hc⟩ := F
  exact jc C M hb hc (⟨G, k_steps C.1, C.1⟩) (fun H N => r_steps N.1)
theorem b_hinders (F : FW G) : JN (f_Ls_hinders [.ref 1]) (f_Md_hinders_ [.ref 618]) G := by
  obtain ⟨p, q, l, m, B, K, S, A, U, cu, c2, C, M, hb, hc⟩ := F
  exact jc C M hb hc (⟨G, k_hinders C.1, C.1⟩) (fun H N => r_hinders N.1)
theorem b_fits (F : FW G) (x y : Int32) : JN (f_Ls_fits [.ref 1, .int x, .int y]) (f_Md_fits [.ref 618, .int x, .int y]) G := by
  obtain ⟨p, q, l, m, B, K, S, A, U, cu, c2, C, M, hb, hc⟩ := F
  exact jc C M hb hc (⟨G, k_fits C.1 x y, C.1⟩) (fun H N => r_fits N.1 x y)
theorem b_needs (F : FW G) (x : Int32) : JN (f_Ls_needs [.ref 1, .int x]) (f_Md_needs [.ref 618, .int x]) G := by
  obtain ⟨p, q, l, m, B, K, S, A, U, cu, c2, C, M, hb, hc⟩ := F
  exact jc C M hb hc (⟨G, k_needs C.1 x, C.1⟩) (fun H N => r_needs N.1 x)
theorem b_would (F : FW G) (x y z : Int32) : JN (f_Ls_would [.ref 1, .int x, .int y, .int z]) (f_Md_would [.ref 618, .int x, .int y, .int z]) G := by
  obtain ⟨p, q, l, m, B, K, S, A, U, cu, c2, C, M, hb, hc⟩ := F
  exact jc C M hb hc (⟨G, k_would C.1 x y z, C.1⟩) (fun H N => r_would N.1 x y z)
theorem b_insert (F : FW G) (x y z : Int32) : JN (f_Ls_insert [.ref 1, .int x, .int y, .int z]) (f_Md_insert [.ref 618, .int x, .int y, .int z]) G := by
  obtain ⟨p, q, l, m, B, K, S, A, U, cu, c2, C, M, hb, hc⟩ := F
  exact jc C M hb hc (k_insert C.1 x y z) (fun H N => r_insert N.1 x y z)
theorem b_remove (F : FW G) (x : Int32) : JN (f_Ls_remove [.ref 1, .int x]) (f_Md_remove [.ref 618, .int x]) G := by
  obtain ⟨p, q, l, m, B, K, S, A, U, cu, c2, C, M, hb, hc⟩ := F
  exact jc C M hb hc (k_remove C.1 x) (fun H N => r_remove N.1 x)
theorem b_change (F : FW G) (x y z : Int32) : JN (f_Ls_change [.ref 1, .int x, .int y, .int z]) (f_Md_change [.ref 618, .int x, .int y, .int z]) G := by
  obtain ⟨p, q, l, m, B, K, S, A, U, cu, c2, C, M, hb, hc⟩ := F
  exact jc C M hb hc (k_change C.1 x y z) (fun H N => r_change N.1 x y z)
theorem b_point (F : FW G) (x y : Int32) : JN (f_Ls_point [.ref 1, .int x, .int y]) (f_Md_point [.ref 618, .int x, .int y]) G := by
  obtain ⟨p, q, l, m, B, K, S, A, U, cu, c2, C, M, hb, hc⟩ := F
  exact jc C M hb hc (k_point C.1 x y) (fun H N => r_point N.1 x y)
theorem b_drop (F : FW G) (x : Int32) : JN (f_Ls_drop [.ref 1, .int x]) (f_Md_drop [.ref 618, .int x]) G := by
  obtain ⟨p, q, l, m, B, K, S, A, U, cu, c2, C, M, hb, hc⟩ := F
  exact jc C M hb hc (k_drop C.1 x) (fun H N => r_drop N.1 x)
theorem b_begin (F : FW G) (x y z : Int32) : JN (f_Ls_begin [.ref 1, .int x, .int y, .int z]) (f_Md_begin [.ref 618, .int x, .int y, .int z]) G := by
  obtain ⟨p, q, l, m, B, K, S, A, U, cu, c2, C, M, hb, hc⟩ := F
  exact jc C M hb hc (k_begin C.1 x y z) (fun H N => r_begin N.1 x y z)
theorem b_step (F : FW G) : JN (f_Ls_step [.ref 1]) (f_Md_step [.ref 618]) G := by
  obtain ⟨p, q, l, m, B, K, S, A, U, cu, c2, C, M, hb, hc⟩ := F
  exact jc C M hb hc (k_step C.1) (fun H N => r_step N.1)
theorem b_stop (F : FW G) : JN (f_Ls_stop [.ref 1]) (f_Md_stop [.ref 618]) G := by
  obtain ⟨p, q, l, m, B, K, S, A, U, cu, c2, C, M, hb, hc⟩ := F
  exact jc C M hb hc (k_stop C.1) (fun H N => r_stop N.1)
theorem b_crash (F : FW G) : JN (f_Ls_crash [.ref 1]) (f_Md_crash [.ref 618]) G := by
  obtain ⟨p, q, l, m, B, K, S, A, U, cu, c2, C, M, hb, hc⟩ := F
  exact jc C M hb hc (k_crash C.1) (fun H N => r_crash N.1)
theorem b_resume (F : FW G) : JN (f_Ls_resume [.ref 1]) (f_Md_resume [.ref 618]) G := by
  obtain ⟨p, q, l, m, B, K, S, A, U, cu, c2, C, M, hb, hc⟩ := F
  exact jc C M hb hc (k_resume C.1) (fun H N => r_resume N.1)
theorem b_pack (F : FW G) (x : Int32) : JN (f_Ls_pack [.ref 1, .int x]) (f_Md_pack [.ref 618, .int x]) G := by
  obtain ⟨p, q, l, m, B, K, S, A, U, cu, c2, C, M, hb, hc⟩ := F
  exact jc C M hb hc (k_pack C.1 x) (fun H N => r_pack N.1 x)
theorem b_when (F : FW G) (x y : Int32) : JN (f_Ls_when [.ref 1, .int x, .int y]) (f_Md_when [.ref 618, .int x, .int y]) G := by
  obtain ⟨p, q, l, m, B, K, S, A, U, cu, c2, C, M, hb, hc⟩ := F
  exact jc C M hb hc (k_when C.1 x y) (fun H N => r_when N.1 x y)
theorem b_after (F : FW G) (x y : Int32) : JN (f_Ls_after [.ref 1, .int x, .int y]) (f_Md_after [.ref 618, .int x, .int y]) G := by
  obtain ⟨p, q, l, m, B, K, S, A, U, cu, c2, C, M, hb, hc⟩ := F
  exact jc C M hb hc (k_after C.1 x y) (fun H N => r_after N.1 x y)
theorem b_during (F : FW G) (x y z u w : Int32) : JN (f_Ls_during [.ref 1, .int x, .int y, .int z, .int u, .int w]) (f_Md_during [.ref 618, .int x, .int y, .int z, .int u, .int w]) G := by
  obtain ⟨p, q, l, m, B, K, S, A, U, cu, c2, C, M, hb, hc⟩ := F
  exact jc C M hb hc (k_during C.1 x y z u w) (fun H N => r_during N.1 x y z u w)
theorem b_crashes (F : FW G) (x y : Int32) : JN (f_Ls_crashes [.ref 1, .int x, .int y]) (f_Md_crashes [.ref 618, .int x, .int y]) G := by
  obtain ⟨p, q, l, m, B, K, S, A, U, cu, c2, C, M, hb, hc⟩ := F
  exact jc C M hb hc (k_crashes C.1 x y) (fun H N => r_crashes N.1 x y)
theorem b_runs (F : FW G) (x y : Int32) : JN (f_Ls_runs [.ref 1, .int x, .int y]) (f_Md_runs [.ref 618, .int x, .int y]) G := by
  obtain ⟨p, q, l, m, B, K, S, A, U, cu, c2, C, M, hb, hc⟩ := F
  exact jc C M hb hc (k_runs C.1 x y) (fun H N => r_runs N.1 x y)
theorem b_run (F : FW G) (x y z : Int32) : JN (f_Ls_run [.ref 1, .int x, .int y, .int z]) (f_Md_run [.ref 618, .int x, .int y, .int z]) G := by
  obtain ⟨p, q, l, m, B, K, S, A, U, cu, c2, C, M, hb, hc⟩ := F
  exact jc C M hb hc (k_run C.1 x y z) (fun H N => r_run N.1 x y z)
theorem b_merged (F : FW G) (x y : Int32) : JN (f_Ls_merged [.ref 1, .int x, .int y]) (f_Md_merged [.ref 618, .int x, .int y]) G := by
  obtain ⟨p, q, l, m, B, K, S, A, U, cu, c2, C, M, hb, hc⟩ := F
  exact jc C M hb hc (k_merged C.1 x y) (fun H N => r_merged N.1 x y)
theorem b_check (F : FW G) (x : Int32) : JN (f_Ls_check [.ref 1, .int x]) (f_Md_check [.ref 618, .int x]) G := by
  obtain ⟨p, q, l, m, B, K, S, A, U, cu, c2, C, M, hb, hc⟩ := F
  exact jc C M hb hc (k_check C.1 x) (fun H N => r_check N.1 x)
theorem b_free (F : FW G) (x : Int32) : JN (f_Ls_free [.ref 1, .int x]) (f_Md_free [.ref 618, .int x]) G := by
  obtain ⟨p, q, l, m, B, K, S, A, U, cu, c2, C, M, hb, hc⟩ := F
  exact jc C M hb hc (k_free C.1 x) (fun H N => r_free N.1 x)
theorem b_judged (F : FW G) (x : Int32) : JN (f_Ls_judged [.ref 1, .int x]) (f_Md_judged [.ref 618, .int x]) G := by
  obtain ⟨p, q, l, m, B, K, S, A, U, cu, c2, C, M, hb, hc⟩ := F
  exact jc C M hb hc (k_judged C.1 C.2.2.2.2.2.1 C.2.2.2.1.2.2.1 C.2.2.2.1.1 hb.2.2 x) (fun H N => r_judged N.1 N.2.2.2 hb.2.2 x)
theorem b_count (F : FW G) (x : Int32) : JN (f_Ls_count [.ref 1, .int x]) (f_Md_count [.ref 618, .int x]) G := by
  obtain ⟨p, q, l, m, B, K, S, A, U, cu, c2, C, M, hb, hc⟩ := F
  exact jc C M hb hc (⟨G, k_count C.1 C.2.2.2.2.2.1 C.2.2.2.1.2.2.1 C.2.2.2.1.1.1 C.2.1.1.1.1 x, C.1⟩) (fun H N => r_count N.1 N.2.2.2.1 N.2.1.1.1.1 x)
theorem b_open (F : FW G) (x y : Int32) : JN (f_Ls_open [.ref 1, .int x, .int y]) (f_Md_open [.ref 618, .int x, .int y]) G := by
  obtain ⟨p, q, l, m, B, K, S, A, U, cu, c2, C, M, hb, hc⟩ := F
  exact jc C M hb (ope_ok hc x y) (k_open C.1 x y) (fun H N => r_open N.1 x y)
theorem b_fetch (F : FW G) : JN (f_Ls_fetch [.ref 1]) (f_Md_fetch [.ref 618]) G := by
  obtain ⟨p, q, l, m, B, K, S, A, U, cu, c2, C, M, hb, hc⟩ := F
  rcases hc with ⟨h1, h2⟩ | ⟨rfl, hi⟩
  · refine jc (v := -1) (A' := A) (U' := U) (cu' := cu) (c2' := c2) C M hb (Or.inl ⟨h1, h2⟩) ?_ (fun H N => ?_)
    · have := k_fetch C.1
      rw [fet_no _ _ h1] at this
      exact this
    · have := r_fetch N.1 (Or.inl h2)
      rw [fet_no _ _ h2] at this
      exact this
  · exact jc C M hb (Or.inr ⟨rfl, fet_ok hi⟩) (k_fetch C.1) (fun H N => r_fetch N.1 (Or.inr hi))
theorem b_undo (F : FW G) : JN (f_Ls_undo [.ref 1]) (f_Md_undo [.ref 618]) G := by
  obtain ⟨p, q, l, m, B, K, S, A, U, cu, c2, C, M, hb, hc⟩ := F
  rcases List.eq_nil_or_concat U with e | ⟨U', D, e⟩
  · subst e
    exact jc C M hb hc ⟨G, k_undo0 C.1, C.1⟩ (fun H N => r_undo0 N.1)
  · rw [List.concat_eq_append] at e
    subst e
    exact jc C M hb hc (k_undo1 C.1) (fun H N => r_undo1 N.1)
theorem b_feed (F : FW G) (x y z : Int64) : JN (f_Ls_feed [.ref 1, .long x, .long y, .long z]) (f_Md_feed [.ref 618, .long x, .long y, .long z]) G := by
  obtain ⟨p, q, l, m, B, K, S, A, U, cu, c2, C, M, hb, hc⟩ := F
  exact jx M hb.1.2.1.1 hb hc (k_feed C x y z) (fun H N => r_feed N hb.1.2.1.1 x y z)
theorem b_table (F : FW G) : JN (f_Ls_table [.ref 1]) (f_Md_table [.ref 618]) G := by
  obtain ⟨p, q, l, m, B, K, S, A, U, cu, c2, C, M, hb, hc⟩ := F
  have hr := r_table M hb.1.2.1.1
  have hk := k_table C (fun e he => (hr.1 e he).1)
  cases hp1 : pTab S 1000 tb0 0 with
  | inl e => exact jx M hb.1.2.1.1 hb hc (hk.1 e hp1) (fun H N => ((r_table N hb.1.2.1.1).1 e hp1).2)
  | inr r => exact jx M hb.1.2.1.1 ⟨pTab_ok _ _ _ _ _ okTB0.1 okTB0.2 hp1, pTab_nd 1000 tb0 r.1 0 r.2 List.Pairwise.nil hp1, Nat.zero_le _, fun t ht => absurd ht List.not_mem_nil⟩ (Or.inl ⟨rfl, rfl⟩) (hk.2 r.1 r.2 hp1) (fun H N => (r_table N hb.1.2.1.1).2 r.1 r.2 hp1)
theorem b_work (F : FW G) : JN (f_Ls_work [.ref 1]) (f_Md_work [.ref 618]) G := by
  obtain ⟨p, q, l, m, B, K, S, A, U, cu, c2, C, M, hb, hc⟩ := F
  have hr := r_work M hb.1 hb.2.1 hb.2.2.1
  have hk := k_work C (fun e he => (hr.1 e he).1)
  cases hp1 : pWs S (tIx B) 1000 [] 0 with
  | inl e => exact jx M hb.1.2.1.1 hb hc (hk.1 e hp1) (fun H N => ((r_work N hb.1 hb.2.1 hb.2.2.1).1 e hp1).2)
  | inr r => exact jx M hb.1.2.1.1 ⟨hb.1, hb.2.1, pWs_ok (P := pOf B) rfl _ _ _ _ _ ⟨Nat.zero_le _, fun t ht => absurd ht List.not_mem_nil⟩ hp1⟩ hc (hk.2 r.1 r.2 hp1) (fun H N => (r_work N hb.1 hb.2.1 hb.2.2.1).2 r.1 r.2 hp1)
end JNS
