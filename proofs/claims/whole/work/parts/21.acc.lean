def okLv (t : Nat) : Prop := sh t = some (.inr (2, [t + 1 + 3, t + 2 + 3, 0, 0, 0, 0])) ∧ sh (t + 1) = some (.inl (0, 30)) ∧ sh (t + 2) = some (.inl (0, 30))
theorem ob_Lv (G : GG) {t : Nat} (ho : okLv t) : hp G t = some (.inr (2, hpD G t 0 [t + 1 + 3, t + 2 + 3, 0, 0, 0, 0])) := hp_obj ho.1
theorem gg_Lv_entry (G : GG) {t : Nat} (ho : okLv t) : mm_gr 2 0 (hp G) t = some (t + 1) := hp_gr ho.1 rfl
theorem gg_Lv_size (G : GG) {t : Nat} (ho : okLv t) : mm_gr 2 1 (hp G) t = some (t + 2) := hp_gr ho.1 rfl
theorem gg_Lv_entries (G : GG) {t : Nat} (ho : okLv t) : mm_gi 2 2 (hp G) t = some (G.1 t 2) := hp_gi ho.1 rfl
theorem ww_Lv_entries (G : GG) {t : Nat} (ho : okLv t) (v : Int32) : mm_pf 2 2 (.int v) (hp G) t = some (hp (gsi G t 2 v)) := hp_pf ho.1 rfl
theorem gg_Lv_leaves (G : GG) {t : Nat} (ho : okLv t) : mm_gi 2 3 (hp G) t = some (G.1 t 3) := hp_gi ho.1 rfl
theorem ww_Lv_leaves (G : GG) {t : Nat} (ho : okLv t) (v : Int32) : mm_pf 2 3 (.int v) (hp G) t = some (hp (gsi G t 3 v)) := hp_pf ho.1 rfl
theorem gg_Lv_page (G : GG) {t : Nat} (ho : okLv t) : mm_gi 2 4 (hp G) t = some (G.1 t 4) := hp_gi ho.1 rfl
theorem ww_Lv_page (G : GG) {t : Nat} (ho : okLv t) (v : Int32) : mm_pf 2 4 (.int v) (hp G) t = some (hp (gsi G t 4 v)) := hp_pf ho.1 rfl
theorem gg_Lv_down (G : GG) {t : Nat} (ho : okLv t) : mm_gi 2 5 (hp G) t = some (G.1 t 5) := hp_gi ho.1 rfl
theorem ww_Lv_down (G : GG) {t : Nat} (ho : okLv t) (v : Int32) : mm_pf 2 5 (.int v) (hp G) t = some (hp (gsi G t 5 v)) := hp_pf ho.1 rfl
theorem rr_Lv_entry (G : GG) {t : Nat} (ho : okLv t) {i : Nat} (hi : i < 30) : mm_li (hp G) (t + 1) (nI i) = some (G.1 (t + 1) i) := hp_li ho.2.1 hi (by decide)
theorem uu_Lv_entry (G : GG) {t : Nat} (ho : okLv t) {i : Nat} (hi : i < 30) (x : Int32) : mm_si (hp G) (t + 1) (nI i) x = some (hp (gsi G (t + 1) i x)) := hp_si ho.2.1 hi (by decide)
theorem rr_Lv_size (G : GG) {t : Nat} (ho : okLv t) {i : Nat} (hi : i < 30) : mm_li (hp G) (t + 2) (nI i) = some (G.1 (t + 2) i) := hp_li ho.2.2 hi (by decide)
theorem uu_Lv_size (G : GG) {t : Nat} (ho : okLv t) {i : Nat} (hi : i < 30) (x : Int32) : mm_si (hp G) (t + 2) (nI i) x = some (hp (gsi G (t + 2) i x)) := hp_si ho.2.2 hi (by decide)
def okWh (w : Nat) : Prop := sh w = some (.inr (10, [w + 1 + 3, w + 2 + 3, w + 3 + 3, w + 4 + 3, w + 5 + 3, w + 6 + 3, 0])) ∧ sh (w + 1) = some (.inl (0, 12)) ∧ sh (w + 2) = some (.inl (0, 12)) ∧ sh (w + 3) = some (.inl (0, 12)) ∧ sh (w + 4) = some (.inl (0, 12)) ∧ sh (w + 5) = some (.inl (3, 12)) ∧ sh (w + 6) = some (.inl (3, 12))
theorem ob_Wh (G : GG) {w : Nat} (ho : okWh w) : hp G w = some (.inr (10, hpD G w 0 [w + 1 + 3, w + 2 + 3, w + 3 + 3, w + 4 + 3, w + 5 + 3, w + 6 + 3, 0])) := hp_obj ho.1
theorem gg_Wh_kind (G : GG) {w : Nat} (ho : okWh w) : mm_gr 10 0 (hp G) w = some (w + 1) := hp_gr ho.1 rfl
theorem gg_Wh_column (G : GG) {w : Nat} (ho : okWh w) : mm_gr 10 1 (hp G) w = some (w + 2) := hp_gr ho.1 rfl
theorem gg_Wh_low (G : GG) {w : Nat} (ho : okWh w) : mm_gr 10 2 (hp G) w = some (w + 3) := hp_gr ho.1 rfl
theorem gg_Wh_high (G : GG) {w : Nat} (ho : okWh w) : mm_gr 10 3 (hp G) w = some (w + 4) := hp_gr ho.1 rfl
theorem gg_Wh_not (G : GG) {w : Nat} (ho : okWh w) : mm_gr 10 4 (hp G) w = some (w + 5) := hp_gr ho.1 rfl
theorem gg_Wh_opens (G : GG) {w : Nat} (ho : okWh w) : mm_gr 10 5 (hp G) w = some (w + 6) := hp_gr ho.1 rfl
theorem gg_Wh_limits (G : GG) {w : Nat} (ho : okWh w) : mm_gi 10 6 (hp G) w = some (G.1 w 6) := hp_gi ho.1 rfl
theorem ww_Wh_limits (G : GG) {w : Nat} (ho : okWh w) (v : Int32) : mm_pf 10 6 (.int v) (hp G) w = some (hp (gsi G w 6 v)) := hp_pf ho.1 rfl
theorem rr_Wh_kind (G : GG) {w : Nat} (ho : okWh w) {i : Nat} (hi : i < 12) : mm_li (hp G) (w + 1) (nI i) = some (G.1 (w + 1) i) := hp_li ho.2.1 hi (by decide)
theorem uu_Wh_kind (G : GG) {w : Nat} (ho : okWh w) {i : Nat} (hi : i < 12) (x : Int32) : mm_si (hp G) (w + 1) (nI i) x = some (hp (gsi G (w + 1) i x)) := hp_si ho.2.1 hi (by decide)
theorem rr_Wh_column (G : GG) {w : Nat} (ho : okWh w) {i : Nat} (hi : i < 12) : mm_li (hp G) (w + 2) (nI i) = some (G.1 (w + 2) i) := hp_li ho.2.2.1 hi (by decide)
theorem uu_Wh_column (G : GG) {w : Nat} (ho : okWh w) {i : Nat} (hi : i < 12) (x : Int32) : mm_si (hp G) (w + 2) (nI i) x = some (hp (gsi G (w + 2) i x)) := hp_si ho.2.2.1 hi (by decide)
theorem rr_Wh_low (G : GG) {w : Nat} (ho : okWh w) {i : Nat} (hi : i < 12) : mm_li (hp G) (w + 3) (nI i) = some (G.1 (w + 3) i) := hp_li ho.2.2.2.1 hi (by decide)
theorem uu_Wh_low (G : GG) {w : Nat} (ho : okWh w) {i : Nat} (hi : i < 12) (x : Int32) : mm_si (hp G) (w + 3) (nI i) x = some (hp (gsi G (w + 3) i x)) := hp_si ho.2.2.2.1 hi (by decide)
theorem rr_Wh_high (G : GG) {w : Nat} (ho : okWh w) {i : Nat} (hi : i < 12) : mm_li (hp G) (w + 4) (nI i) = some (G.1 (w + 4) i) := hp_li ho.2.2.2.2.1 hi (by decide)
theorem uu_Wh_high (G : GG) {w : Nat} (ho : okWh w) {i : Nat} (hi : i < 12) (x : Int32) : mm_si (hp G) (w + 4) (nI i) x = some (hp (gsi G (w + 4) i x)) := hp_si ho.2.2.2.2.1 hi (by decide)
theorem rr_Wh_not (G : GG) {w : Nat} (ho : okWh w) {i : Nat} (hi : i < 12) : mm_lb (hp G) (w + 5) (nI i) = some (G.1 (w + 5) i) := hp_lb (by decide) ho.2.2.2.2.2.1 hi (by decide)
theorem uu_Wh_not (G : GG) {w : Nat} (ho : okWh w) {i : Nat} (hi : i < 12) (x : Int32) : mm_sb (hp G) (w + 5) (nI i) x = some (hp (gsi G (w + 5) i (vp_nar .boolean x))) := hp_sb (by decide) ho.2.2.2.2.2.1 hi (by decide)
theorem rr_Wh_opens (G : GG) {w : Nat} (ho : okWh w) {i : Nat} (hi : i < 12) : mm_lb (hp G) (w + 6) (nI i) = some (G.1 (w + 6) i) := hp_lb (by decide) ho.2.2.2.2.2.2 hi (by decide)
theorem uu_Wh_opens (G : GG) {w : Nat} (ho : okWh w) {i : Nat} (hi : i < 12) (x : Int32) : mm_sb (hp G) (w + 6) (nI i) x = some (hp (gsi G (w + 6) i (vp_nar .boolean x))) := hp_sb (by decide) ho.2.2.2.2.2.2 hi (by decide)
def okPl (p : Nat) : Prop := sh p = some (.inr (4, [p + 1 + 3, p + 2 + 3, p + 3 + 3, p + 4 + 3, p + 5 + 3, p + 6 + 3, p + 7 + 3, p + 14 + 3, 0, 0, 0, 0, 0])) ∧ sh (p + 1) = some (.inl (0, 4)) ∧ sh (p + 2) = some (.inl (0, 4)) ∧ sh (p + 3) = some (.inl (1, 4)) ∧ sh (p + 4) = some (.inl (0, 60)) ∧ sh (p + 5) = some (.inl (0, 8)) ∧ sh (p + 6) = some (.inl (0, 8))
theorem ob_Pl (G : GG) {p : Nat} (ho : okPl p) : hp G p = some (.inr (4, hpD G p 0 [p + 1 + 3, p + 2 + 3, p + 3 + 3, p + 4 + 3, p + 5 + 3, p + 6 + 3, p + 7 + 3, p + 14 + 3, 0, 0, 0, 0, 0])) := hp_obj ho.1
theorem gg_Pl_kind (G : GG) {p : Nat} (ho : okPl p) : mm_gr 4 0 (hp G) p = some (p + 1) := hp_gr ho.1 rfl
theorem gg_Pl_column (G : GG) {p : Nat} (ho : okPl p) : mm_gr 4 1 (hp G) p = some (p + 2) := hp_gr ho.1 rfl
theorem gg_Pl_name (G : GG) {p : Nat} (ho : okPl p) : mm_gr 4 2 (hp G) p = some (p + 3) := hp_gr ho.1 rfl
theorem gg_Pl_row (G : GG) {p : Nat} (ho : okPl p) : mm_gr 4 3 (hp G) p = some (p + 4) := hp_gr ho.1 rfl
theorem gg_Pl_sort (G : GG) {p : Nat} (ho : okPl p) : mm_gr 4 4 (hp G) p = some (p + 5) := hp_gr ho.1 rfl
theorem gg_Pl_target (G : GG) {p : Nat} (ho : okPl p) : mm_gr 4 5 (hp G) p = some (p + 6) := hp_gr ho.1 rfl
theorem gg_Pl_choose (G : GG) {p : Nat} (ho : okPl p) : mm_gr 4 6 (hp G) p = some (p + 7) := hp_gr ho.1 rfl
theorem gg_Pl_part (G : GG) {p : Nat} (ho : okPl p) : mm_gr 4 7 (hp G) p = some (p + 14) := hp_gr ho.1 rfl
theorem gg_Pl_page (G : GG) {p : Nat} (ho : okPl p) : mm_gi 4 8 (hp G) p = some (G.1 p 8) := hp_gi ho.1 rfl
theorem ww_Pl_page (G : GG) {p : Nat} (ho : okPl p) (v : Int32) : mm_pf 4 8 (.int v) (hp G) p = some (hp (gsi G p 8 v)) := hp_pf ho.1 rfl
theorem gg_Pl_batch (G : GG) {p : Nat} (ho : okPl p) : mm_gi 4 9 (hp G) p = some (G.1 p 9) := hp_gi ho.1 rfl
theorem ww_Pl_batch (G : GG) {p : Nat} (ho : okPl p) (v : Int32) : mm_pf 4 9 (.int v) (hp G) p = some (hp (gsi G p 9 v)) := hp_pf ho.1 rfl
theorem gg_Pl_indexes (G : GG) {p : Nat} (ho : okPl p) : mm_gi 4 10 (hp G) p = some (G.1 p 10) := hp_gi ho.1 rfl
theorem ww_Pl_indexes (G : GG) {p : Nat} (ho : okPl p) (v : Int32) : mm_pf 4 10 (.int v) (hp G) p = some (hp (gsi G p 10 v)) := hp_pf ho.1 rfl
theorem gg_Pl_rows (G : GG) {p : Nat} (ho : okPl p) : mm_gi 4 11 (hp G) p = some (G.1 p 11) := hp_gi ho.1 rfl
theorem ww_Pl_rows (G : GG) {p : Nat} (ho : okPl p) (v : Int32) : mm_pf 4 11 (.int v) (hp G) p = some (hp (gsi G p 11 v)) := hp_pf ho.1 rfl
theorem gg_Pl_points (G : GG) {p : Nat} (ho : okPl p) : mm_gi 4 12 (hp G) p = some (G.1 p 12) := hp_gi ho.1 rfl
theorem ww_Pl_points (G : GG) {p : Nat} (ho : okPl p) (v : Int32) : mm_pf 4 12 (.int v) (hp G) p = some (hp (gsi G p 12 v)) := hp_pf ho.1 rfl
theorem rr_Pl_kind (G : GG) {p : Nat} (ho : okPl p) {i : Nat} (hi : i < 4) : mm_li (hp G) (p + 1) (nI i) = some (G.1 (p + 1) i) := hp_li ho.2.1 hi (by decide)
theorem uu_Pl_kind (G : GG) {p : Nat} (ho : okPl p) {i : Nat} (hi : i < 4) (x : Int32) : mm_si (hp G) (p + 1) (nI i) x = some (hp (gsi G (p + 1) i x)) := hp_si ho.2.1 hi (by decide)
theorem rr_Pl_column (G : GG) {p : Nat} (ho : okPl p) {i : Nat} (hi : i < 4) : mm_li (hp G) (p + 2) (nI i) = some (G.1 (p + 2) i) := hp_li ho.2.2.1 hi (by decide)
theorem uu_Pl_column (G : GG) {p : Nat} (ho : okPl p) {i : Nat} (hi : i < 4) (x : Int32) : mm_si (hp G) (p + 2) (nI i) x = some (hp (gsi G (p + 2) i x)) := hp_si ho.2.2.1 hi (by decide)
theorem rr_Pl_name (G : GG) {p : Nat} (ho : okPl p) {i : Nat} (hi : i < 4) : mm_ll (hp G) (p + 3) (nI i) = some (G.2.1 (p + 3) i) := hp_ll ho.2.2.2.1 hi (by decide)
theorem uu_Pl_name (G : GG) {p : Nat} (ho : okPl p) {i : Nat} (hi : i < 4) (x : Int64) : mm_sl (hp G) (p + 3) (nI i) x = some (hp (gsl G (p + 3) i x)) := hp_sl ho.2.2.2.1 hi (by decide)
theorem rr_Pl_row (G : GG) {p : Nat} (ho : okPl p) {i : Nat} (hi : i < 60) : mm_li (hp G) (p + 4) (nI i) = some (G.1 (p + 4) i) := hp_li ho.2.2.2.2.1 hi (by decide)
theorem uu_Pl_row (G : GG) {p : Nat} (ho : okPl p) {i : Nat} (hi : i < 60) (x : Int32) : mm_si (hp G) (p + 4) (nI i) x = some (hp (gsi G (p + 4) i x)) := hp_si ho.2.2.2.2.1 hi (by decide)
theorem rr_Pl_sort (G : GG) {p : Nat} (ho : okPl p) {i : Nat} (hi : i < 8) : mm_li (hp G) (p + 5) (nI i) = some (G.1 (p + 5) i) := hp_li ho.2.2.2.2.2.1 hi (by decide)
theorem uu_Pl_sort (G : GG) {p : Nat} (ho : okPl p) {i : Nat} (hi : i < 8) (x : Int32) : mm_si (hp G) (p + 5) (nI i) x = some (hp (gsi G (p + 5) i x)) := hp_si ho.2.2.2.2.2.1 hi (by decide)
theorem rr_Pl_target (G : GG) {p : Nat} (ho : okPl p) {i : Nat} (hi : i < 8) : mm_li (hp G) (p + 6) (nI i) = some (G.1 (p + 6) i) := hp_li ho.2.2.2.2.2.2 hi (by decide)
theorem uu_Pl_target (G : GG) {p : Nat} (ho : okPl p) {i : Nat} (hi : i < 8) (x : Int32) : mm_si (hp G) (p + 6) (nI i) x = some (hp (gsi G (p + 6) i x)) := hp_si ho.2.2.2.2.2.2 hi (by decide)
def okLn (l : Nat) : Prop := sh l = some (.inr (3, [l + 1 + 3, l + 2 + 3, 0])) ∧ sh (l + 1) = some (.inl (0, 40)) ∧ sh (l + 2) = some (.inl (0, 120))
theorem ob_Ln (G : GG) {l : Nat} (ho : okLn l) : hp G l = some (.inr (3, hpD G l 0 [l + 1 + 3, l + 2 + 3, 0])) := hp_obj ho.1
theorem gg_Ln_word (G : GG) {l : Nat} (ho : okLn l) : mm_gr 3 0 (hp G) l = some (l + 1) := hp_gr ho.1 rfl
theorem gg_Ln_number (G : GG) {l : Nat} (ho : okLn l) : mm_gr 3 1 (hp G) l = some (l + 2) := hp_gr ho.1 rfl
theorem gg_Ln_told (G : GG) {l : Nat} (ho : okLn l) : mm_gi 3 2 (hp G) l = some (G.1 l 2) := hp_gi ho.1 rfl
theorem ww_Ln_told (G : GG) {l : Nat} (ho : okLn l) (v : Int32) : mm_pf 3 2 (.int v) (hp G) l = some (hp (gsi G l 2 v)) := hp_pf ho.1 rfl
theorem rr_Ln_word (G : GG) {l : Nat} (ho : okLn l) {i : Nat} (hi : i < 40) : mm_li (hp G) (l + 1) (nI i) = some (G.1 (l + 1) i) := hp_li ho.2.1 hi (by decide)
theorem uu_Ln_word (G : GG) {l : Nat} (ho : okLn l) {i : Nat} (hi : i < 40) (x : Int32) : mm_si (hp G) (l + 1) (nI i) x = some (hp (gsi G (l + 1) i x)) := hp_si ho.2.1 hi (by decide)
theorem rr_Ln_number (G : GG) {l : Nat} (ho : okLn l) {i : Nat} (hi : i < 120) : mm_li (hp G) (l + 2) (nI i) = some (G.1 (l + 2) i) := hp_li ho.2.2 hi (by decide)
theorem uu_Ln_number (G : GG) {l : Nat} (ho : okLn l) {i : Nat} (hi : i < 120) (x : Int32) : mm_si (hp G) (l + 2) (nI i) x = some (hp (gsi G (l + 2) i x)) := hp_si ho.2.2 hi (by decide)
def okRw (r : Nat) : Prop := sh r = some (.inr (7, [r + 1 + 3, 0, 0, 0])) ∧ sh (r + 1) = some (.inl (0, 90))
theorem ob_Rw (G : GG) {r : Nat} (ho : okRw r) : hp G r = some (.inr (7, hpD G r 0 [r + 1 + 3, 0, 0, 0])) := hp_obj ho.1
theorem gg_Rw_value (G : GG) {r : Nat} (ho : okRw r) : mm_gr 7 0 (hp G) r = some (r + 1) := hp_gr ho.1 rfl
theorem gg_Rw_come (G : GG) {r : Nat} (ho : okRw r) : mm_gi 7 1 (hp G) r = some (G.1 r 1) := hp_gi ho.1 rfl
theorem ww_Rw_come (G : GG) {r : Nat} (ho : okRw r) (v : Int32) : mm_pf 7 1 (.int v) (hp G) r = some (hp (gsi G r 1 v)) := hp_pf ho.1 rfl
theorem gg_Rw_there (G : GG) {r : Nat} (ho : okRw r) : mm_gi 7 2 (hp G) r = some (G.1 r 2) := hp_gi ho.1 rfl
theorem ww_Rw_there (G : GG) {r : Nat} (ho : okRw r) (v : Int32) : mm_pf 7 2 (.int v) (hp G) r = some (hp (gsi G r 2 v)) := hp_pf ho.1 rfl
theorem gg_Rw_chosen (G : GG) {r : Nat} (ho : okRw r) : mm_gi 7 3 (hp G) r = some (G.1 r 3) := hp_gi ho.1 rfl
theorem ww_Rw_chosen (G : GG) {r : Nat} (ho : okRw r) (v : Int32) : mm_pf 7 3 (.int v) (hp G) r = some (hp (gsi G r 3 v)) := hp_pf ho.1 rfl
theorem rr_Rw_value (G : GG) {r : Nat} (ho : okRw r) {i : Nat} (hi : i < 90) : mm_li (hp G) (r + 1) (nI i) = some (G.1 (r + 1) i) := hp_li ho.2 hi (by decide)
theorem uu_Rw_value (G : GG) {r : Nat} (ho : okRw r) {i : Nat} (hi : i < 90) (x : Int32) : mm_si (hp G) (r + 1) (nI i) x = some (hp (gsi G (r + 1) i x)) := hp_si ho.2 hi (by decide)
def okPt (q : Nat) : Prop := sh q = some (.inr (5, [q + 1 + 3, q + 2 + 3, q + 3 + 3, 0])) ∧ sh (q + 1) = some (.inl (0, 12)) ∧ sh (q + 2) = some (.inl (0, 12)) ∧ sh (q + 3) = some (.inl (0, 12))
theorem ob_Pt (G : GG) {q : Nat} (ho : okPt q) : hp G q = some (.inr (5, hpD G q 0 [q + 1 + 3, q + 2 + 3, q + 3 + 3, 0])) := hp_obj ho.1
theorem gg_Pt_sort (G : GG) {q : Nat} (ho : okPt q) : mm_gr 5 0 (hp G) q = some (q + 1) := hp_gr ho.1 rfl
theorem gg_Pt_target (G : GG) {q : Nat} (ho : okPt q) : mm_gr 5 1 (hp G) q = some (q + 2) := hp_gr ho.1 rfl
theorem gg_Pt_before (G : GG) {q : Nat} (ho : okPt q) : mm_gr 5 2 (hp G) q = some (q + 3) := hp_gr ho.1 rfl
theorem gg_Pt_come (G : GG) {q : Nat} (ho : okPt q) : mm_gi 5 3 (hp G) q = some (G.1 q 3) := hp_gi ho.1 rfl
theorem ww_Pt_come (G : GG) {q : Nat} (ho : okPt q) (v : Int32) : mm_pf 5 3 (.int v) (hp G) q = some (hp (gsi G q 3 v)) := hp_pf ho.1 rfl
theorem rr_Pt_sort (G : GG) {q : Nat} (ho : okPt q) {i : Nat} (hi : i < 12) : mm_li (hp G) (q + 1) (nI i) = some (G.1 (q + 1) i) := hp_li ho.2.1 hi (by decide)
theorem uu_Pt_sort (G : GG) {q : Nat} (ho : okPt q) {i : Nat} (hi : i < 12) (x : Int32) : mm_si (hp G) (q + 1) (nI i) x = some (hp (gsi G (q + 1) i x)) := hp_si ho.2.1 hi (by decide)
theorem rr_Pt_target (G : GG) {q : Nat} (ho : okPt q) {i : Nat} (hi : i < 12) : mm_li (hp G) (q + 2) (nI i) = some (G.1 (q + 2) i) := hp_li ho.2.2.1 hi (by decide)
theorem uu_Pt_target (G : GG) {q : Nat} (ho : okPt q) {i : Nat} (hi : i < 12) (x : Int32) : mm_si (hp G) (q + 2) (nI i) x = some (hp (gsi G (q + 2) i x)) := hp_si ho.2.2.1 hi (by decide)
theorem rr_Pt_before (G : GG) {q : Nat} (ho : okPt q) {i : Nat} (hi : i < 12) : mm_li (hp G) (q + 3) (nI i) = some (G.1 (q + 3) i) := hp_li ho.2.2.2 hi (by decide)
theorem uu_Pt_before (G : GG) {q : Nat} (ho : okPt q) {i : Nat} (hi : i < 12) (x : Int32) : mm_si (hp G) (q + 3) (nI i) x = some (hp (gsi G (q + 3) i x)) := hp_si ho.2.2.2 hi (by decide)
def okJb (j : Nat) : Prop := sh j = some (.inr (1, [j + 1 + 3, j + 2 + 3, j + 3 + 3, 0, 0, 0, 0, 0, 0, 0, 0])) ∧ sh (j + 1) = some (.inl (0, 360)) ∧ sh (j + 2) = some (.inl (0, 40))
theorem ob_Jb (G : GG) {j : Nat} (ho : okJb j) : hp G j = some (.inr (1, hpD G j 0 [j + 1 + 3, j + 2 + 3, j + 3 + 3, 0, 0, 0, 0, 0, 0, 0, 0])) := hp_obj ho.1
theorem gg_Jb_record (G : GG) {j : Nat} (ho : okJb j) : mm_gr 1 0 (hp G) j = some (j + 1) := hp_gr ho.1 rfl
theorem gg_Jb_side (G : GG) {j : Nat} (ho : okJb j) : mm_gr 1 1 (hp G) j = some (j + 2) := hp_gr ho.1 rfl
theorem gg_Jb_stand (G : GG) {j : Nat} (ho : okJb j) : mm_gr 1 2 (hp G) j = some (j + 3) := hp_gr ho.1 rfl
theorem gg_Jb_on (G : GG) {j : Nat} (ho : okJb j) : mm_gi 1 3 (hp G) j = some (G.1 j 3) := hp_gi ho.1 rfl
theorem ww_Jb_on (G : GG) {j : Nat} (ho : okJb j) (v : Int32) : mm_pf 1 3 (.int v) (hp G) j = some (hp (gsi G j 3 v)) := hp_pf ho.1 rfl
theorem gg_Jb_down (G : GG) {j : Nat} (ho : okJb j) : mm_gi 1 4 (hp G) j = some (G.1 j 4) := hp_gi ho.1 rfl
theorem ww_Jb_down (G : GG) {j : Nat} (ho : okJb j) (v : Int32) : mm_pf 1 4 (.int v) (hp G) j = some (hp (gsi G j 4 v)) := hp_pf ho.1 rfl
theorem gg_Jb_at (G : GG) {j : Nat} (ho : okJb j) : mm_gi 1 5 (hp G) j = some (G.1 j 5) := hp_gi ho.1 rfl
theorem ww_Jb_at (G : GG) {j : Nat} (ho : okJb j) (v : Int32) : mm_pf 1 5 (.int v) (hp G) j = some (hp (gsi G j 5 v)) := hp_pf ho.1 rfl
theorem gg_Jb_way (G : GG) {j : Nat} (ho : okJb j) : mm_gi 1 6 (hp G) j = some (G.1 j 6) := hp_gi ho.1 rfl
theorem ww_Jb_way (G : GG) {j : Nat} (ho : okJb j) (v : Int32) : mm_pf 1 6 (.int v) (hp G) j = some (hp (gsi G j 6 v)) := hp_pf ho.1 rfl
theorem gg_Jb_since (G : GG) {j : Nat} (ho : okJb j) : mm_gi 1 7 (hp G) j = some (G.1 j 7) := hp_gi ho.1 rfl
theorem ww_Jb_since (G : GG) {j : Nat} (ho : okJb j) (v : Int32) : mm_pf 1 7 (.int v) (hp G) j = some (hp (gsi G j 7 v)) := hp_pf ho.1 rfl
theorem gg_Jb_gone (G : GG) {j : Nat} (ho : okJb j) : mm_gi 1 8 (hp G) j = some (G.1 j 8) := hp_gi ho.1 rfl
theorem ww_Jb_gone (G : GG) {j : Nat} (ho : okJb j) (v : Int32) : mm_pf 1 8 (.int v) (hp G) j = some (hp (gsi G j 8 v)) := hp_pf ho.1 rfl
theorem gg_Jb_records (G : GG) {j : Nat} (ho : okJb j) : mm_gi 1 9 (hp G) j = some (G.1 j 9) := hp_gi ho.1 rfl
theorem ww_Jb_records (G : GG) {j : Nat} (ho : okJb j) (v : Int32) : mm_pf 1 9 (.int v) (hp G) j = some (hp (gsi G j 9 v)) := hp_pf ho.1 rfl
theorem gg_Jb_sides (G : GG) {j : Nat} (ho : okJb j) : mm_gi 1 10 (hp G) j = some (G.1 j 10) := hp_gi ho.1 rfl
theorem ww_Jb_sides (G : GG) {j : Nat} (ho : okJb j) (v : Int32) : mm_pf 1 10 (.int v) (hp G) j = some (hp (gsi G j 10 v)) := hp_pf ho.1 rfl
theorem rr_Jb_record (G : GG) {j : Nat} (ho : okJb j) {i : Nat} (hi : i < 360) : mm_li (hp G) (j + 1) (nI i) = some (G.1 (j + 1) i) := hp_li ho.2.1 hi (by decide)
theorem uu_Jb_record (G : GG) {j : Nat} (ho : okJb j) {i : Nat} (hi : i < 360) (x : Int32) : mm_si (hp G) (j + 1) (nI i) x = some (hp (gsi G (j + 1) i x)) := hp_si ho.2.1 hi (by decide)
theorem rr_Jb_side (G : GG) {j : Nat} (ho : okJb j) {i : Nat} (hi : i < 40) : mm_li (hp G) (j + 2) (nI i) = some (G.1 (j + 2) i) := hp_li ho.2.2 hi (by decide)
theorem uu_Jb_side (G : GG) {j : Nat} (ho : okJb j) {i : Nat} (hi : i < 40) (x : Int32) : mm_si (hp G) (j + 2) (nI i) x = some (hp (gsi G (j + 2) i x)) := hp_si ho.2.2 hi (by decide)
def okSt (s : Nat) : Prop := sh s = some (.inr (8, [s + 1 + 3, s + 3 + 3, s + 7 + 3, s + 8 + 3, s + 14 + 3, s + 15 + 3, 2, 0, 0])) ∧ sh (s + 14) = some (.inl (0, 4)) ∧ sh (s + 15) = some (.inl (0, 4)) ∧ sh (s + 7) = some (.inl (5, 4))
theorem ob_St (G : GG) {s : Nat} (ho : okSt s) : hp G s = some (.inr (8, hpD G s 0 [s + 1 + 3, s + 3 + 3, s + 7 + 3, s + 8 + 3, s + 14 + 3, s + 15 + 3, 2, 0, 0])) := hp_obj ho.1
theorem gg_St_rows (G : GG) {s : Nat} (ho : okSt s) : mm_gr 8 0 (hp G) s = some (s + 1) := hp_gr ho.1 rfl
theorem gg_St_points (G : GG) {s : Nat} (ho : okSt s) : mm_gr 8 1 (hp G) s = some (s + 3) := hp_gr ho.1 rfl
theorem gg_St_trees (G : GG) {s : Nat} (ho : okSt s) : mm_gr 8 2 (hp G) s = some (s + 7) := hp_gr ho.1 rfl
theorem gg_St_job (G : GG) {s : Nat} (ho : okSt s) : mm_gr 8 3 (hp G) s = some (s + 8) := hp_gr ho.1 rfl
theorem gg_St_was (G : GG) {s : Nat} (ho : okSt s) : mm_gr 8 4 (hp G) s = some (s + 14) := hp_gr ho.1 rfl
theorem gg_St_willBe (G : GG) {s : Nat} (ho : okSt s) : mm_gr 8 5 (hp G) s = some (s + 15) := hp_gr ho.1 rfl
theorem gg_St_plan (G : GG) {s : Nat} (ho : okSt s) : mm_gr 8 6 (hp G) s = some (G.2.2 s 6) := hp_gr2 ho.1 rfl
theorem ww_St_plan (G : GG) {s : Nat} (ho : okSt s) (v : Nat) : mm_pf 8 6 (.ref v) (hp G) s = some (hp (gsr G s 6 v)) := hp_pfr ho.1 rfl
theorem gg_St_batch (G : GG) {s : Nat} (ho : okSt s) : mm_gi 8 7 (hp G) s = some (G.1 s 7) := hp_gi ho.1 rfl
theorem ww_St_batch (G : GG) {s : Nat} (ho : okSt s) (v : Int32) : mm_pf 8 7 (.int v) (hp G) s = some (hp (gsi G s 7 v)) := hp_pf ho.1 rfl
theorem gg_St_spent (G : GG) {s : Nat} (ho : okSt s) : mm_gi 8 8 (hp G) s = some (G.1 s 8) := hp_gi ho.1 rfl
theorem ww_St_spent (G : GG) {s : Nat} (ho : okSt s) (v : Int32) : mm_pf 8 8 (.int v) (hp G) s = some (hp (gsi G s 8 v)) := hp_pf ho.1 rfl
theorem rr_St_was (G : GG) {s : Nat} (ho : okSt s) {i : Nat} (hi : i < 4) : mm_li (hp G) (s + 14) (nI i) = some (G.1 (s + 14) i) := hp_li ho.2.1 hi (by decide)
theorem uu_St_was (G : GG) {s : Nat} (ho : okSt s) {i : Nat} (hi : i < 4) (x : Int32) : mm_si (hp G) (s + 14) (nI i) x = some (hp (gsi G (s + 14) i x)) := hp_si ho.2.1 hi (by decide)
theorem rr_St_willBe (G : GG) {s : Nat} (ho : okSt s) {i : Nat} (hi : i < 4) : mm_li (hp G) (s + 15) (nI i) = some (G.1 (s + 15) i) := hp_li ho.2.2.1 hi (by decide)
theorem uu_St_willBe (G : GG) {s : Nat} (ho : okSt s) {i : Nat} (hi : i < 4) (x : Int32) : mm_si (hp G) (s + 15) (nI i) x = some (hp (gsi G (s + 15) i x)) := hp_si ho.2.2.1 hi (by decide)
theorem rr_St_trees (G : GG) {s : Nat} (ho : okSt s) {i : Nat} (hi : i < 4) : mm_lr (hp G) (s + 7) (nI i) = some ((s + 7) + 9 + 3 * i) := hp_lr5 ho.2.2.2 hi (by decide)
theorem ob_Ls (G : GG) : hp G 1 = some (.inr (11, hpD G 1 0 [2 + 3, 6 + 3, 31 + 3, 37 + 3, 0, 0, 0, 0, 0, 2, 2, 2, 2, 2, 2, 142 + 3])) := hp_obj (show sh 1 = some (.inr (11, [2 + 3, 6 + 3, 31 + 3, 37 + 3, 0, 0, 0, 0, 0, 2, 2, 2, 2, 2, 2, 142 + 3])) from rfl)
theorem gg_Ls_tape (G : GG) : mm_gr 11 0 (hp G) 1 = some (2) := hp_gr (show sh 1 = some (.inr (11, [2 + 3, 6 + 3, 31 + 3, 37 + 3, 0, 0, 0, 0, 0, 2, 2, 2, 2, 2, 2, 142 + 3])) from rfl) rfl
theorem gg_Ls_reader (G : GG) : mm_gr 11 1 (hp G) 1 = some (6) := hp_gr (show sh 1 = some (.inr (11, [2 + 3, 6 + 3, 31 + 3, 37 + 3, 0, 0, 0, 0, 0, 2, 2, 2, 2, 2, 2, 142 + 3])) from rfl) rfl
theorem gg_Ls_bench (G : GG) : mm_gr 11 2 (hp G) 1 = some (31) := hp_gr (show sh 1 = some (.inr (11, [2 + 3, 6 + 3, 31 + 3, 37 + 3, 0, 0, 0, 0, 0, 2, 2, 2, 2, 2, 2, 142 + 3])) from rfl) rfl
theorem gg_Ls_past (G : GG) : mm_gr 11 3 (hp G) 1 = some (37) := hp_gr (show sh 1 = some (.inr (11, [2 + 3, 6 + 3, 31 + 3, 37 + 3, 0, 0, 0, 0, 0, 2, 2, 2, 2, 2, 2, 142 + 3])) from rfl) rfl
theorem gg_Ls_oldest (G : GG) : mm_gi 11 4 (hp G) 1 = some (G.1 1 4) := hp_gi (show sh 1 = some (.inr (11, [2 + 3, 6 + 3, 31 + 3, 37 + 3, 0, 0, 0, 0, 0, 2, 2, 2, 2, 2, 2, 142 + 3])) from rfl) rfl
theorem ww_Ls_oldest (G : GG) (v : Int32) : mm_pf 11 4 (.int v) (hp G) 1 = some (hp (gsi G 1 4 v)) := hp_pf (show sh 1 = some (.inr (11, [2 + 3, 6 + 3, 31 + 3, 37 + 3, 0, 0, 0, 0, 0, 2, 2, 2, 2, 2, 2, 142 + 3])) from rfl) rfl
theorem gg_Ls_kept (G : GG) : mm_gi 11 5 (hp G) 1 = some (G.1 1 5) := hp_gi (show sh 1 = some (.inr (11, [2 + 3, 6 + 3, 31 + 3, 37 + 3, 0, 0, 0, 0, 0, 2, 2, 2, 2, 2, 2, 142 + 3])) from rfl) rfl
theorem ww_Ls_kept (G : GG) (v : Int32) : mm_pf 11 5 (.int v) (hp G) 1 = some (hp (gsi G 1 5 v)) := hp_pf (show sh 1 = some (.inr (11, [2 + 3, 6 + 3, 31 + 3, 37 + 3, 0, 0, 0, 0, 0, 2, 2, 2, 2, 2, 2, 142 + 3])) from rfl) rfl
theorem gg_Ls_cursorIndex (G : GG) : mm_gi 11 6 (hp G) 1 = some (G.1 1 6) := hp_gi (show sh 1 = some (.inr (11, [2 + 3, 6 + 3, 31 + 3, 37 + 3, 0, 0, 0, 0, 0, 2, 2, 2, 2, 2, 2, 142 + 3])) from rfl) rfl
theorem ww_Ls_cursorIndex (G : GG) (v : Int32) : mm_pf 11 6 (.int v) (hp G) 1 = some (hp (gsi G 1 6 v)) := hp_pf (show sh 1 = some (.inr (11, [2 + 3, 6 + 3, 31 + 3, 37 + 3, 0, 0, 0, 0, 0, 2, 2, 2, 2, 2, 2, 142 + 3])) from rfl) rfl
theorem gg_Ls_cursorKey (G : GG) : mm_gi 11 7 (hp G) 1 = some (G.1 1 7) := hp_gi (show sh 1 = some (.inr (11, [2 + 3, 6 + 3, 31 + 3, 37 + 3, 0, 0, 0, 0, 0, 2, 2, 2, 2, 2, 2, 142 + 3])) from rfl) rfl
theorem ww_Ls_cursorKey (G : GG) (v : Int32) : mm_pf 11 7 (.int v) (hp G) 1 = some (hp (gsi G 1 7 v)) := hp_pf (show sh 1 = some (.inr (11, [2 + 3, 6 + 3, 31 + 3, 37 + 3, 0, 0, 0, 0, 0, 2, 2, 2, 2, 2, 2, 142 + 3])) from rfl) rfl
theorem gg_Ls_fetched (G : GG) : mm_gi 11 8 (hp G) 1 = some (G.1 1 8) := hp_gi (show sh 1 = some (.inr (11, [2 + 3, 6 + 3, 31 + 3, 37 + 3, 0, 0, 0, 0, 0, 2, 2, 2, 2, 2, 2, 142 + 3])) from rfl) rfl
theorem ww_Ls_fetched (G : GG) (v : Int32) : mm_pf 11 8 (.int v) (hp G) 1 = some (hp (gsi G 1 8 v)) := hp_pf (show sh 1 = some (.inr (11, [2 + 3, 6 + 3, 31 + 3, 37 + 3, 0, 0, 0, 0, 0, 2, 2, 2, 2, 2, 2, 142 + 3])) from rfl) rfl
theorem gg_Ls_plan (G : GG) : mm_gr 11 9 (hp G) 1 = some (G.2.2 1 9) := hp_gr2 (show sh 1 = some (.inr (11, [2 + 3, 6 + 3, 31 + 3, 37 + 3, 0, 0, 0, 0, 0, 2, 2, 2, 2, 2, 2, 142 + 3])) from rfl) rfl
theorem ww_Ls_plan (G : GG) (v : Nat) : mm_pf 11 9 (.ref v) (hp G) 1 = some (hp (gsr G 1 9 v)) := hp_pfr (show sh 1 = some (.inr (11, [2 + 3, 6 + 3, 31 + 3, 37 + 3, 0, 0, 0, 0, 0, 2, 2, 2, 2, 2, 2, 142 + 3])) from rfl) rfl
theorem gg_Ls_draftPlan (G : GG) : mm_gr 11 10 (hp G) 1 = some (G.2.2 1 10) := hp_gr2 (show sh 1 = some (.inr (11, [2 + 3, 6 + 3, 31 + 3, 37 + 3, 0, 0, 0, 0, 0, 2, 2, 2, 2, 2, 2, 142 + 3])) from rfl) rfl
theorem ww_Ls_draftPlan (G : GG) (v : Nat) : mm_pf 11 10 (.ref v) (hp G) 1 = some (hp (gsr G 1 10 v)) := hp_pfr (show sh 1 = some (.inr (11, [2 + 3, 6 + 3, 31 + 3, 37 + 3, 0, 0, 0, 0, 0, 2, 2, 2, 2, 2, 2, 142 + 3])) from rfl) rfl
theorem gg_Ls_lines (G : GG) : mm_gr 11 11 (hp G) 1 = some (G.2.2 1 11) := hp_gr2 (show sh 1 = some (.inr (11, [2 + 3, 6 + 3, 31 + 3, 37 + 3, 0, 0, 0, 0, 0, 2, 2, 2, 2, 2, 2, 142 + 3])) from rfl) rfl
theorem ww_Ls_lines (G : GG) (v : Nat) : mm_pf 11 11 (.ref v) (hp G) 1 = some (hp (gsr G 1 11 v)) := hp_pfr (show sh 1 = some (.inr (11, [2 + 3, 6 + 3, 31 + 3, 37 + 3, 0, 0, 0, 0, 0, 2, 2, 2, 2, 2, 2, 142 + 3])) from rfl) rfl
theorem gg_Ls_draftLines (G : GG) : mm_gr 11 12 (hp G) 1 = some (G.2.2 1 12) := hp_gr2 (show sh 1 = some (.inr (11, [2 + 3, 6 + 3, 31 + 3, 37 + 3, 0, 0, 0, 0, 0, 2, 2, 2, 2, 2, 2, 142 + 3])) from rfl) rfl
theorem ww_Ls_draftLines (G : GG) (v : Nat) : mm_pf 11 12 (.ref v) (hp G) 1 = some (hp (gsr G 1 12 v)) := hp_pfr (show sh 1 = some (.inr (11, [2 + 3, 6 + 3, 31 + 3, 37 + 3, 0, 0, 0, 0, 0, 2, 2, 2, 2, 2, 2, 142 + 3])) from rfl) rfl
theorem gg_Ls_now (G : GG) : mm_gr 11 13 (hp G) 1 = some (G.2.2 1 13) := hp_gr2 (show sh 1 = some (.inr (11, [2 + 3, 6 + 3, 31 + 3, 37 + 3, 0, 0, 0, 0, 0, 2, 2, 2, 2, 2, 2, 142 + 3])) from rfl) rfl
theorem ww_Ls_now (G : GG) (v : Nat) : mm_pf 11 13 (.ref v) (hp G) 1 = some (hp (gsr G 1 13 v)) := hp_pfr (show sh 1 = some (.inr (11, [2 + 3, 6 + 3, 31 + 3, 37 + 3, 0, 0, 0, 0, 0, 2, 2, 2, 2, 2, 2, 142 + 3])) from rfl) rfl
theorem gg_Ls_spare (G : GG) : mm_gr 11 14 (hp G) 1 = some (G.2.2 1 14) := hp_gr2 (show sh 1 = some (.inr (11, [2 + 3, 6 + 3, 31 + 3, 37 + 3, 0, 0, 0, 0, 0, 2, 2, 2, 2, 2, 2, 142 + 3])) from rfl) rfl
theorem ww_Ls_spare (G : GG) (v : Nat) : mm_pf 11 14 (.ref v) (hp G) 1 = some (hp (gsr G 1 14 v)) := hp_pfr (show sh 1 = some (.inr (11, [2 + 3, 6 + 3, 31 + 3, 37 + 3, 0, 0, 0, 0, 0, 2, 2, 2, 2, 2, 2, 142 + 3])) from rfl) rfl
theorem gg_Ls_trial (G : GG) : mm_gr 11 15 (hp G) 1 = some (142) := hp_gr (show sh 1 = some (.inr (11, [2 + 3, 6 + 3, 31 + 3, 37 + 3, 0, 0, 0, 0, 0, 2, 2, 2, 2, 2, 2, 142 + 3])) from rfl) rfl
theorem rr_Ls_past (G : GG) {i : Nat} (hi : i < 16) : mm_lr (hp G) (37) (nI i) = some (G.2.2 (37) i) := hp_lr4 (show sh (37) = some (.inl (4, 16)) from rfl) hi (by decide)
theorem ob_Tp (G : GG) : hp G 2 = some (.inr (9, hpD G 2 0 [3 + 3, 4 + 3, 5 + 3, 0, 0, 0, 0, 0, 1])) := hp_obj (show sh 2 = some (.inr (9, [3 + 3, 4 + 3, 5 + 3, 0, 0, 0, 0, 0, 1])) from rfl)
theorem gg_Tp_sign (G : GG) : mm_gr 9 0 (hp G) 2 = some (3) := hp_gr (show sh 2 = some (.inr (9, [3 + 3, 4 + 3, 5 + 3, 0, 0, 0, 0, 0, 1])) from rfl) rfl
theorem gg_Tp_sortOf (G : GG) : mm_gr 9 1 (hp G) 2 = some (4) := hp_gr (show sh 2 = some (.inr (9, [3 + 3, 4 + 3, 5 + 3, 0, 0, 0, 0, 0, 1])) from rfl) rfl
theorem gg_Tp_keys (G : GG) : mm_gr 9 2 (hp G) 2 = some (5) := hp_gr (show sh 2 = some (.inr (9, [3 + 3, 4 + 3, 5 + 3, 0, 0, 0, 0, 0, 1])) from rfl) rfl
theorem gg_Tp_length (G : GG) : mm_gi 9 3 (hp G) 2 = some (G.1 2 3) := hp_gi (show sh 2 = some (.inr (9, [3 + 3, 4 + 3, 5 + 3, 0, 0, 0, 0, 0, 1])) from rfl) rfl
theorem ww_Tp_length (G : GG) (v : Int32) : mm_pf 9 3 (.int v) (hp G) 2 = some (hp (gsi G 2 3 v)) := hp_pf (show sh 2 = some (.inr (9, [3 + 3, 4 + 3, 5 + 3, 0, 0, 0, 0, 0, 1])) from rfl) rfl
theorem gg_Tp_place (G : GG) : mm_gi 9 4 (hp G) 2 = some (G.1 2 4) := hp_gi (show sh 2 = some (.inr (9, [3 + 3, 4 + 3, 5 + 3, 0, 0, 0, 0, 0, 1])) from rfl) rfl
theorem ww_Tp_place (G : GG) (v : Int32) : mm_pf 9 4 (.int v) (hp G) 2 = some (hp (gsi G 2 4 v)) := hp_pf (show sh 2 = some (.inr (9, [3 + 3, 4 + 3, 5 + 3, 0, 0, 0, 0, 0, 1])) from rfl) rfl
theorem gg_Tp_behind (G : GG) : mm_gi 9 5 (hp G) 2 = some (G.1 2 5) := hp_gi (show sh 2 = some (.inr (9, [3 + 3, 4 + 3, 5 + 3, 0, 0, 0, 0, 0, 1])) from rfl) rfl
theorem ww_Tp_behind (G : GG) (v : Int32) : mm_pf 9 5 (.int v) (hp G) 2 = some (hp (gsi G 2 5 v)) := hp_pf (show sh 2 = some (.inr (9, [3 + 3, 4 + 3, 5 + 3, 0, 0, 0, 0, 0, 1])) from rfl) rfl
theorem gg_Tp_sort (G : GG) : mm_gi 9 6 (hp G) 2 = some (G.1 2 6) := hp_gi (show sh 2 = some (.inr (9, [3 + 3, 4 + 3, 5 + 3, 0, 0, 0, 0, 0, 1])) from rfl) rfl
theorem ww_Tp_sort (G : GG) (v : Int32) : mm_pf 9 6 (.int v) (hp G) 2 = some (hp (gsi G 2 6 v)) := hp_pf (show sh 2 = some (.inr (9, [3 + 3, 4 + 3, 5 + 3, 0, 0, 0, 0, 0, 1])) from rfl) rfl
theorem gg_Tp_value (G : GG) : mm_gi 9 7 (hp G) 2 = some (G.1 2 7) := hp_gi (show sh 2 = some (.inr (9, [3 + 3, 4 + 3, 5 + 3, 0, 0, 0, 0, 0, 1])) from rfl) rfl
theorem ww_Tp_value (G : GG) (v : Int32) : mm_pf 9 7 (.int v) (hp G) 2 = some (hp (gsi G 2 7 v)) := hp_pf (show sh 2 = some (.inr (9, [3 + 3, 4 + 3, 5 + 3, 0, 0, 0, 0, 0, 1])) from rfl) rfl
theorem gg_Tp_letters (G : GG) : mm_gl 9 8 (hp G) 2 = some (G.2.1 2 8) := hp_gl (show sh 2 = some (.inr (9, [3 + 3, 4 + 3, 5 + 3, 0, 0, 0, 0, 0, 1])) from rfl) rfl
theorem ww_Tp_letters (G : GG) (v : Int64) : mm_pf 9 8 (.long v) (hp G) 2 = some (hp (gsl G 2 8 v)) := hp_pfl (show sh 2 = some (.inr (9, [3 + 3, 4 + 3, 5 + 3, 0, 0, 0, 0, 0, 1])) from rfl) rfl
theorem rr_Tp_sign (G : GG) {i : Nat} (hi : i < 1000) : mm_lb (hp G) (3) (nI i) = some (G.1 (3) i) := hp_lb (by decide) (show sh (3) = some (.inl (2, 1000)) from rfl) hi (by decide)
theorem uu_Tp_sign (G : GG) {i : Nat} (hi : i < 1000) (x : Int32) : mm_sb (hp G) (3) (nI i) x = some (hp (gsi G (3) i (vp_nar .byte x))) := hp_sb (by decide) (show sh (3) = some (.inl (2, 1000)) from rfl) hi (by decide)
theorem rr_Tp_sortOf (G : GG) {i : Nat} (hi : i < 1000) : mm_lb (hp G) (4) (nI i) = some (G.1 (4) i) := hp_lb (by decide) (show sh (4) = some (.inl (2, 1000)) from rfl) hi (by decide)
theorem uu_Tp_sortOf (G : GG) {i : Nat} (hi : i < 1000) (x : Int32) : mm_sb (hp G) (4) (nI i) x = some (hp (gsi G (4) i (vp_nar .byte x))) := hp_sb (by decide) (show sh (4) = some (.inl (2, 1000)) from rfl) hi (by decide)
theorem rr_Tp_keys (G : GG) {i : Nat} (hi : i < 38) : mm_ll (hp G) (5) (nI i) = some (G.2.1 (5) i) := hp_ll (show sh (5) = some (.inl (1, 38)) from rfl) hi (by decide)
theorem uu_Tp_keys (G : GG) {i : Nat} (hi : i < 38) (x : Int64) : mm_sl (hp G) (5) (nI i) x = some (hp (gsl G (5) i x)) := hp_sl (show sh (5) = some (.inl (1, 38)) from rfl) hi (by decide)
theorem ob_Rd (G : GG) : hp G 6 = some (.inr (6, hpD G 6 0 [2 + 3, 2, 2, 0, 0, 0])) := hp_obj (show sh 6 = some (.inr (6, [2 + 3, 2, 2, 0, 0, 0])) from rfl)
theorem gg_Rd_tape (G : GG) : mm_gr 6 0 (hp G) 6 = some (2) := hp_gr (show sh 6 = some (.inr (6, [2 + 3, 2, 2, 0, 0, 0])) from rfl) rfl
theorem gg_Rd_plan (G : GG) : mm_gr 6 1 (hp G) 6 = some (G.2.2 6 1) := hp_gr2 (show sh 6 = some (.inr (6, [2 + 3, 2, 2, 0, 0, 0])) from rfl) rfl
theorem ww_Rd_plan (G : GG) (v : Nat) : mm_pf 6 1 (.ref v) (hp G) 6 = some (hp (gsr G 6 1 v)) := hp_pfr (show sh 6 = some (.inr (6, [2 + 3, 2, 2, 0, 0, 0])) from rfl) rfl
theorem gg_Rd_lines (G : GG) : mm_gr 6 2 (hp G) 6 = some (G.2.2 6 2) := hp_gr2 (show sh 6 = some (.inr (6, [2 + 3, 2, 2, 0, 0, 0])) from rfl) rfl
theorem ww_Rd_lines (G : GG) (v : Nat) : mm_pf 6 2 (.ref v) (hp G) 6 = some (hp (gsr G 6 2 v)) := hp_pfr (show sh 6 = some (.inr (6, [2 + 3, 2, 2, 0, 0, 0])) from rfl) rfl
theorem gg_Rd_fault (G : GG) : mm_gi 6 3 (hp G) 6 = some (G.1 6 3) := hp_gi (show sh 6 = some (.inr (6, [2 + 3, 2, 2, 0, 0, 0])) from rfl) rfl
theorem ww_Rd_fault (G : GG) (v : Int32) : mm_pf 6 3 (.int v) (hp G) 6 = some (hp (gsi G 6 3 v)) := hp_pf (show sh 6 = some (.inr (6, [2 + 3, 2, 2, 0, 0, 0])) from rfl) rfl
theorem gg_Rd_number (G : GG) : mm_gi 6 4 (hp G) 6 = some (G.1 6 4) := hp_gi (show sh 6 = some (.inr (6, [2 + 3, 2, 2, 0, 0, 0])) from rfl) rfl
theorem ww_Rd_number (G : GG) (v : Int32) : mm_pf 6 4 (.int v) (hp G) 6 = some (hp (gsi G 6 4 v)) := hp_pf (show sh 6 = some (.inr (6, [2 + 3, 2, 2, 0, 0, 0])) from rfl) rfl
theorem gg_Rd_been (G : GG) : mm_gi 6 5 (hp G) 6 = some (G.1 6 5) := hp_gi (show sh 6 = some (.inr (6, [2 + 3, 2, 2, 0, 0, 0])) from rfl) rfl
theorem ww_Rd_been (G : GG) (v : Int32) : mm_pf 6 5 (.int v) (hp G) 6 = some (hp (gsi G 6 5 v)) := hp_pf (show sh 6 = some (.inr (6, [2 + 3, 2, 2, 0, 0, 0])) from rfl) rfl
theorem ob_Bn (G : GG) : hp G 31 = some (.inr (0, hpD G 31 0 [32 + 3, 33 + 3, 34 + 3, 35 + 3, 36 + 3, 0])) := hp_obj (show sh 31 = some (.inr (0, [32 + 3, 33 + 3, 34 + 3, 35 + 3, 36 + 3, 0])) from rfl)
theorem gg_Bn_coming (G : GG) : mm_gr 0 0 (hp G) 31 = some (32) := hp_gr (show sh 31 = some (.inr (0, [32 + 3, 33 + 3, 34 + 3, 35 + 3, 36 + 3, 0])) from rfl) rfl
theorem gg_Bn_memory (G : GG) : mm_gr 0 1 (hp G) 31 = some (33) := hp_gr (show sh 31 = some (.inr (0, [32 + 3, 33 + 3, 34 + 3, 35 + 3, 36 + 3, 0])) from rfl) rfl
theorem gg_Bn_length (G : GG) : mm_gr 0 2 (hp G) 31 = some (34) := hp_gr (show sh 31 = some (.inr (0, [32 + 3, 33 + 3, 34 + 3, 35 + 3, 36 + 3, 0])) from rfl) rfl
theorem gg_Bn_left (G : GG) : mm_gr 0 3 (hp G) 31 = some (35) := hp_gr (show sh 31 = some (.inr (0, [32 + 3, 33 + 3, 34 + 3, 35 + 3, 36 + 3, 0])) from rfl) rfl
theorem gg_Bn_right (G : GG) : mm_gr 0 4 (hp G) 31 = some (36) := hp_gr (show sh 31 = some (.inr (0, [32 + 3, 33 + 3, 34 + 3, 35 + 3, 36 + 3, 0])) from rfl) rfl
theorem gg_Bn_runs (G : GG) : mm_gi 0 5 (hp G) 31 = some (G.1 31 5) := hp_gi (show sh 31 = some (.inr (0, [32 + 3, 33 + 3, 34 + 3, 35 + 3, 36 + 3, 0])) from rfl) rfl
theorem ww_Bn_runs (G : GG) (v : Int32) : mm_pf 0 5 (.int v) (hp G) 31 = some (hp (gsi G 31 5 v)) := hp_pf (show sh 31 = some (.inr (0, [32 + 3, 33 + 3, 34 + 3, 35 + 3, 36 + 3, 0])) from rfl) rfl
theorem rr_Bn_coming (G : GG) {i : Nat} (hi : i < 30) : mm_li (hp G) (32) (nI i) = some (G.1 (32) i) := hp_li (show sh (32) = some (.inl (0, 30)) from rfl) hi (by decide)
theorem uu_Bn_coming (G : GG) {i : Nat} (hi : i < 30) (x : Int32) : mm_si (hp G) (32) (nI i) x = some (hp (gsi G (32) i x)) := hp_si (show sh (32) = some (.inl (0, 30)) from rfl) hi (by decide)
theorem rr_Bn_memory (G : GG) {i : Nat} (hi : i < 8) : mm_li (hp G) (33) (nI i) = some (G.1 (33) i) := hp_li (show sh (33) = some (.inl (0, 8)) from rfl) hi (by decide)
theorem uu_Bn_memory (G : GG) {i : Nat} (hi : i < 8) (x : Int32) : mm_si (hp G) (33) (nI i) x = some (hp (gsi G (33) i x)) := hp_si (show sh (33) = some (.inl (0, 8)) from rfl) hi (by decide)
theorem rr_Bn_length (G : GG) {i : Nat} (hi : i < 30) : mm_li (hp G) (34) (nI i) = some (G.1 (34) i) := hp_li (show sh (34) = some (.inl (0, 30)) from rfl) hi (by decide)
theorem uu_Bn_length (G : GG) {i : Nat} (hi : i < 30) (x : Int32) : mm_si (hp G) (34) (nI i) x = some (hp (gsi G (34) i x)) := hp_si (show sh (34) = some (.inl (0, 30)) from rfl) hi (by decide)
theorem rr_Bn_left (G : GG) {i : Nat} (hi : i < 30) : mm_li (hp G) (35) (nI i) = some (G.1 (35) i) := hp_li (show sh (35) = some (.inl (0, 30)) from rfl) hi (by decide)
theorem uu_Bn_left (G : GG) {i : Nat} (hi : i < 30) (x : Int32) : mm_si (hp G) (35) (nI i) x = some (hp (gsi G (35) i x)) := hp_si (show sh (35) = some (.inl (0, 30)) from rfl) hi (by decide)
theorem rr_Bn_right (G : GG) {i : Nat} (hi : i < 30) : mm_li (hp G) (36) (nI i) = some (G.1 (36) i) := hp_li (show sh (36) = some (.inl (0, 30)) from rfl) hi (by decide)
theorem uu_Bn_right (G : GG) {i : Nat} (hi : i < 30) (x : Int32) : mm_si (hp G) (36) (nI i) x = some (hp (gsi G (36) i x)) := hp_si (show sh (36) = some (.inl (0, 30)) from rfl) hi (by decide)
theorem ob_Md (G : GG) : hp G 618 = some (.inr (12, hpD G 618 0 [0, 619 + 3, 0, 0, 620 + 3, 621 + 3, 622 + 3, 0, 0, 623 + 3, 624 + 3, 625 + 3, 626 + 3, 627 + 3, 628 + 3, 0, 0, 0, 0, 0, 0, 0, 629 + 3, 630 + 3, 631 + 3, 632 + 3, 633 + 3])) := hp_obj (show sh 618 = some (.inr (12, [0, 619 + 3, 0, 0, 620 + 3, 621 + 3, 622 + 3, 0, 0, 623 + 3, 624 + 3, 625 + 3, 626 + 3, 627 + 3, 628 + 3, 0, 0, 0, 0, 0, 0, 0, 629 + 3, 630 + 3, 631 + 3, 632 + 3, 633 + 3])) from rfl)
theorem gg_Md_thrown (G : GG) : mm_gi 12 0 (hp G) 618 = some (G.1 618 0) := hp_gi (show sh 618 = some (.inr (12, [0, 619 + 3, 0, 0, 620 + 3, 621 + 3, 622 + 3, 0, 0, 623 + 3, 624 + 3, 625 + 3, 626 + 3, 627 + 3, 628 + 3, 0, 0, 0, 0, 0, 0, 0, 629 + 3, 630 + 3, 631 + 3, 632 + 3, 633 + 3])) from rfl) rfl
theorem ww_Md_thrown (G : GG) (v : Int32) : mm_pf 12 0 (.int v) (hp G) 618 = some (hp (gsi G 618 0 v)) := hp_pf (show sh 618 = some (.inr (12, [0, 619 + 3, 0, 0, 620 + 3, 621 + 3, 622 + 3, 0, 0, 623 + 3, 624 + 3, 625 + 3, 626 + 3, 627 + 3, 628 + 3, 0, 0, 0, 0, 0, 0, 0, 629 + 3, 630 + 3, 631 + 3, 632 + 3, 633 + 3])) from rfl) rfl
theorem gg_Md_tape (G : GG) : mm_gr 12 1 (hp G) 618 = some (619) := hp_gr (show sh 618 = some (.inr (12, [0, 619 + 3, 0, 0, 620 + 3, 621 + 3, 622 + 3, 0, 0, 623 + 3, 624 + 3, 625 + 3, 626 + 3, 627 + 3, 628 + 3, 0, 0, 0, 0, 0, 0, 0, 629 + 3, 630 + 3, 631 + 3, 632 + 3, 633 + 3])) from rfl) rfl
theorem gg_Md_taped (G : GG) : mm_gi 12 2 (hp G) 618 = some (G.1 618 2) := hp_gi (show sh 618 = some (.inr (12, [0, 619 + 3, 0, 0, 620 + 3, 621 + 3, 622 + 3, 0, 0, 623 + 3, 624 + 3, 625 + 3, 626 + 3, 627 + 3, 628 + 3, 0, 0, 0, 0, 0, 0, 0, 629 + 3, 630 + 3, 631 + 3, 632 + 3, 633 + 3])) from rfl) rfl
theorem ww_Md_taped (G : GG) (v : Int32) : mm_pf 12 2 (.int v) (hp G) 618 = some (hp (gsi G 618 2 v)) := hp_pf (show sh 618 = some (.inr (12, [0, 619 + 3, 0, 0, 620 + 3, 621 + 3, 622 + 3, 0, 0, 623 + 3, 624 + 3, 625 + 3, 626 + 3, 627 + 3, 628 + 3, 0, 0, 0, 0, 0, 0, 0, 629 + 3, 630 + 3, 631 + 3, 632 + 3, 633 + 3])) from rfl) rfl
theorem gg_Md_size (G : GG) : mm_gi 12 3 (hp G) 618 = some (G.1 618 3) := hp_gi (show sh 618 = some (.inr (12, [0, 619 + 3, 0, 0, 620 + 3, 621 + 3, 622 + 3, 0, 0, 623 + 3, 624 + 3, 625 + 3, 626 + 3, 627 + 3, 628 + 3, 0, 0, 0, 0, 0, 0, 0, 629 + 3, 630 + 3, 631 + 3, 632 + 3, 633 + 3])) from rfl) rfl
theorem ww_Md_size (G : GG) (v : Int32) : mm_pf 12 3 (.int v) (hp G) 618 = some (hp (gsi G 618 3 v)) := hp_pf (show sh 618 = some (.inr (12, [0, 619 + 3, 0, 0, 620 + 3, 621 + 3, 622 + 3, 0, 0, 623 + 3, 624 + 3, 625 + 3, 626 + 3, 627 + 3, 628 + 3, 0, 0, 0, 0, 0, 0, 0, 629 + 3, 630 + 3, 631 + 3, 632 + 3, 633 + 3])) from rfl) rfl
theorem gg_Md_sort (G : GG) : mm_gr 12 4 (hp G) 618 = some (620) := hp_gr (show sh 618 = some (.inr (12, [0, 619 + 3, 0, 0, 620 + 3, 621 + 3, 622 + 3, 0, 0, 623 + 3, 624 + 3, 625 + 3, 626 + 3, 627 + 3, 628 + 3, 0, 0, 0, 0, 0, 0, 0, 629 + 3, 630 + 3, 631 + 3, 632 + 3, 633 + 3])) from rfl) rfl
theorem gg_Md_place (G : GG) : mm_gr 12 5 (hp G) 618 = some (621) := hp_gr (show sh 618 = some (.inr (12, [0, 619 + 3, 0, 0, 620 + 3, 621 + 3, 622 + 3, 0, 0, 623 + 3, 624 + 3, 625 + 3, 626 + 3, 627 + 3, 628 + 3, 0, 0, 0, 0, 0, 0, 0, 629 + 3, 630 + 3, 631 + 3, 632 + 3, 633 + 3])) from rfl) rfl
theorem gg_Md_value (G : GG) : mm_gr 12 6 (hp G) 618 = some (622) := hp_gr (show sh 618 = some (.inr (12, [0, 619 + 3, 0, 0, 620 + 3, 621 + 3, 622 + 3, 0, 0, 623 + 3, 624 + 3, 625 + 3, 626 + 3, 627 + 3, 628 + 3, 0, 0, 0, 0, 0, 0, 0, 629 + 3, 630 + 3, 631 + 3, 632 + 3, 633 + 3])) from rfl) rfl
theorem gg_Md_at (G : GG) : mm_gi 12 7 (hp G) 618 = some (G.1 618 7) := hp_gi (show sh 618 = some (.inr (12, [0, 619 + 3, 0, 0, 620 + 3, 621 + 3, 622 + 3, 0, 0, 623 + 3, 624 + 3, 625 + 3, 626 + 3, 627 + 3, 628 + 3, 0, 0, 0, 0, 0, 0, 0, 629 + 3, 630 + 3, 631 + 3, 632 + 3, 633 + 3])) from rfl) rfl
theorem ww_Md_at (G : GG) (v : Int32) : mm_pf 12 7 (.int v) (hp G) 618 = some (hp (gsi G 618 7 v)) := hp_pf (show sh 618 = some (.inr (12, [0, 619 + 3, 0, 0, 620 + 3, 621 + 3, 622 + 3, 0, 0, 623 + 3, 624 + 3, 625 + 3, 626 + 3, 627 + 3, 628 + 3, 0, 0, 0, 0, 0, 0, 0, 629 + 3, 630 + 3, 631 + 3, 632 + 3, 633 + 3])) from rfl) rfl
theorem gg_Md_fault (G : GG) : mm_gi 12 8 (hp G) 618 = some (G.1 618 8) := hp_gi (show sh 618 = some (.inr (12, [0, 619 + 3, 0, 0, 620 + 3, 621 + 3, 622 + 3, 0, 0, 623 + 3, 624 + 3, 625 + 3, 626 + 3, 627 + 3, 628 + 3, 0, 0, 0, 0, 0, 0, 0, 629 + 3, 630 + 3, 631 + 3, 632 + 3, 633 + 3])) from rfl) rfl
theorem ww_Md_fault (G : GG) (v : Int32) : mm_pf 12 8 (.int v) (hp G) 618 = some (hp (gsi G 618 8 v)) := hp_pf (show sh 618 = some (.inr (12, [0, 619 + 3, 0, 0, 620 + 3, 621 + 3, 622 + 3, 0, 0, 623 + 3, 624 + 3, 625 + 3, 626 + 3, 627 + 3, 628 + 3, 0, 0, 0, 0, 0, 0, 0, 629 + 3, 630 + 3, 631 + 3, 632 + 3, 633 + 3])) from rfl) rfl
theorem gg_Md_words (G : GG) : mm_gr 12 9 (hp G) 618 = some (623) := hp_gr (show sh 618 = some (.inr (12, [0, 619 + 3, 0, 0, 620 + 3, 621 + 3, 622 + 3, 0, 0, 623 + 3, 624 + 3, 625 + 3, 626 + 3, 627 + 3, 628 + 3, 0, 0, 0, 0, 0, 0, 0, 629 + 3, 630 + 3, 631 + 3, 632 + 3, 633 + 3])) from rfl) rfl
theorem gg_Md_tables (G : GG) : mm_gr 12 10 (hp G) 618 = some (624) := hp_gr (show sh 618 = some (.inr (12, [0, 619 + 3, 0, 0, 620 + 3, 621 + 3, 622 + 3, 0, 0, 623 + 3, 624 + 3, 625 + 3, 626 + 3, 627 + 3, 628 + 3, 0, 0, 0, 0, 0, 0, 0, 629 + 3, 630 + 3, 631 + 3, 632 + 3, 633 + 3])) from rfl) rfl
theorem gg_Md_wheres (G : GG) : mm_gr 12 11 (hp G) 618 = some (625) := hp_gr (show sh 618 = some (.inr (12, [0, 619 + 3, 0, 0, 620 + 3, 621 + 3, 622 + 3, 0, 0, 623 + 3, 624 + 3, 625 + 3, 626 + 3, 627 + 3, 628 + 3, 0, 0, 0, 0, 0, 0, 0, 629 + 3, 630 + 3, 631 + 3, 632 + 3, 633 + 3])) from rfl) rfl
theorem gg_Md_names (G : GG) : mm_gr 12 12 (hp G) 618 = some (626) := hp_gr (show sh 618 = some (.inr (12, [0, 619 + 3, 0, 0, 620 + 3, 621 + 3, 622 + 3, 0, 0, 623 + 3, 624 + 3, 625 + 3, 626 + 3, 627 + 3, 628 + 3, 0, 0, 0, 0, 0, 0, 0, 629 + 3, 630 + 3, 631 + 3, 632 + 3, 633 + 3])) from rfl) rfl
theorem gg_Md_lines (G : GG) : mm_gr 12 13 (hp G) 618 = some (627) := hp_gr (show sh 618 = some (.inr (12, [0, 619 + 3, 0, 0, 620 + 3, 621 + 3, 622 + 3, 0, 0, 623 + 3, 624 + 3, 625 + 3, 626 + 3, 627 + 3, 628 + 3, 0, 0, 0, 0, 0, 0, 0, 629 + 3, 630 + 3, 631 + 3, 632 + 3, 633 + 3])) from rfl) rfl
theorem gg_Md_state (G : GG) : mm_gr 12 14 (hp G) 618 = some (628) := hp_gr (show sh 618 = some (.inr (12, [0, 619 + 3, 0, 0, 620 + 3, 621 + 3, 622 + 3, 0, 0, 623 + 3, 624 + 3, 625 + 3, 626 + 3, 627 + 3, 628 + 3, 0, 0, 0, 0, 0, 0, 0, 629 + 3, 630 + 3, 631 + 3, 632 + 3, 633 + 3])) from rfl) rfl
theorem gg_Md_undos (G : GG) : mm_gi 12 15 (hp G) 618 = some (G.1 618 15) := hp_gi (show sh 618 = some (.inr (12, [0, 619 + 3, 0, 0, 620 + 3, 621 + 3, 622 + 3, 0, 0, 623 + 3, 624 + 3, 625 + 3, 626 + 3, 627 + 3, 628 + 3, 0, 0, 0, 0, 0, 0, 0, 629 + 3, 630 + 3, 631 + 3, 632 + 3, 633 + 3])) from rfl) rfl
theorem ww_Md_undos (G : GG) (v : Int32) : mm_pf 12 15 (.int v) (hp G) 618 = some (hp (gsi G 618 15 v)) := hp_pf (show sh 618 = some (.inr (12, [0, 619 + 3, 0, 0, 620 + 3, 621 + 3, 622 + 3, 0, 0, 623 + 3, 624 + 3, 625 + 3, 626 + 3, 627 + 3, 628 + 3, 0, 0, 0, 0, 0, 0, 0, 629 + 3, 630 + 3, 631 + 3, 632 + 3, 633 + 3])) from rfl) rfl
theorem gg_Md_batch (G : GG) : mm_gi 12 16 (hp G) 618 = some (G.1 618 16) := hp_gi (show sh 618 = some (.inr (12, [0, 619 + 3, 0, 0, 620 + 3, 621 + 3, 622 + 3, 0, 0, 623 + 3, 624 + 3, 625 + 3, 626 + 3, 627 + 3, 628 + 3, 0, 0, 0, 0, 0, 0, 0, 629 + 3, 630 + 3, 631 + 3, 632 + 3, 633 + 3])) from rfl) rfl
theorem ww_Md_batch (G : GG) (v : Int32) : mm_pf 12 16 (.int v) (hp G) 618 = some (hp (gsi G 618 16 v)) := hp_pf (show sh 618 = some (.inr (12, [0, 619 + 3, 0, 0, 620 + 3, 621 + 3, 622 + 3, 0, 0, 623 + 3, 624 + 3, 625 + 3, 626 + 3, 627 + 3, 628 + 3, 0, 0, 0, 0, 0, 0, 0, 629 + 3, 630 + 3, 631 + 3, 632 + 3, 633 + 3])) from rfl) rfl
theorem gg_Md_cursor (G : GG) : mm_gi 12 17 (hp G) 618 = some (G.1 618 17) := hp_gi (show sh 618 = some (.inr (12, [0, 619 + 3, 0, 0, 620 + 3, 621 + 3, 622 + 3, 0, 0, 623 + 3, 624 + 3, 625 + 3, 626 + 3, 627 + 3, 628 + 3, 0, 0, 0, 0, 0, 0, 0, 629 + 3, 630 + 3, 631 + 3, 632 + 3, 633 + 3])) from rfl) rfl
theorem ww_Md_cursor (G : GG) (v : Int32) : mm_pf 12 17 (.int v) (hp G) 618 = some (hp (gsi G 618 17 v)) := hp_pf (show sh 618 = some (.inr (12, [0, 619 + 3, 0, 0, 620 + 3, 621 + 3, 622 + 3, 0, 0, 623 + 3, 624 + 3, 625 + 3, 626 + 3, 627 + 3, 628 + 3, 0, 0, 0, 0, 0, 0, 0, 629 + 3, 630 + 3, 631 + 3, 632 + 3, 633 + 3])) from rfl) rfl
theorem gg_Md_cursorKey (G : GG) : mm_gi 12 18 (hp G) 618 = some (G.1 618 18) := hp_gi (show sh 618 = some (.inr (12, [0, 619 + 3, 0, 0, 620 + 3, 621 + 3, 622 + 3, 0, 0, 623 + 3, 624 + 3, 625 + 3, 626 + 3, 627 + 3, 628 + 3, 0, 0, 0, 0, 0, 0, 0, 629 + 3, 630 + 3, 631 + 3, 632 + 3, 633 + 3])) from rfl) rfl
theorem ww_Md_cursorKey (G : GG) (v : Int32) : mm_pf 12 18 (.int v) (hp G) 618 = some (hp (gsi G 618 18 v)) := hp_pf (show sh 618 = some (.inr (12, [0, 619 + 3, 0, 0, 620 + 3, 621 + 3, 622 + 3, 0, 0, 623 + 3, 624 + 3, 625 + 3, 626 + 3, 627 + 3, 628 + 3, 0, 0, 0, 0, 0, 0, 0, 629 + 3, 630 + 3, 631 + 3, 632 + 3, 633 + 3])) from rfl) rfl
theorem gg_Md_cursorLast (G : GG) : mm_gi 12 19 (hp G) 618 = some (G.1 618 19) := hp_gi (show sh 618 = some (.inr (12, [0, 619 + 3, 0, 0, 620 + 3, 621 + 3, 622 + 3, 0, 0, 623 + 3, 624 + 3, 625 + 3, 626 + 3, 627 + 3, 628 + 3, 0, 0, 0, 0, 0, 0, 0, 629 + 3, 630 + 3, 631 + 3, 632 + 3, 633 + 3])) from rfl) rfl
theorem ww_Md_cursorLast (G : GG) (v : Int32) : mm_pf 12 19 (.int v) (hp G) 618 = some (hp (gsi G 618 19 v)) := hp_pf (show sh 618 = some (.inr (12, [0, 619 + 3, 0, 0, 620 + 3, 621 + 3, 622 + 3, 0, 0, 623 + 3, 624 + 3, 625 + 3, 626 + 3, 627 + 3, 628 + 3, 0, 0, 0, 0, 0, 0, 0, 629 + 3, 630 + 3, 631 + 3, 632 + 3, 633 + 3])) from rfl) rfl
theorem gg_Md_low (G : GG) : mm_gi 12 20 (hp G) 618 = some (G.1 618 20) := hp_gi (show sh 618 = some (.inr (12, [0, 619 + 3, 0, 0, 620 + 3, 621 + 3, 622 + 3, 0, 0, 623 + 3, 624 + 3, 625 + 3, 626 + 3, 627 + 3, 628 + 3, 0, 0, 0, 0, 0, 0, 0, 629 + 3, 630 + 3, 631 + 3, 632 + 3, 633 + 3])) from rfl) rfl
theorem ww_Md_low (G : GG) (v : Int32) : mm_pf 12 20 (.int v) (hp G) 618 = some (hp (gsi G 618 20 v)) := hp_pf (show sh 618 = some (.inr (12, [0, 619 + 3, 0, 0, 620 + 3, 621 + 3, 622 + 3, 0, 0, 623 + 3, 624 + 3, 625 + 3, 626 + 3, 627 + 3, 628 + 3, 0, 0, 0, 0, 0, 0, 0, 629 + 3, 630 + 3, 631 + 3, 632 + 3, 633 + 3])) from rfl) rfl
theorem gg_Md_high (G : GG) : mm_gi 12 21 (hp G) 618 = some (G.1 618 21) := hp_gi (show sh 618 = some (.inr (12, [0, 619 + 3, 0, 0, 620 + 3, 621 + 3, 622 + 3, 0, 0, 623 + 3, 624 + 3, 625 + 3, 626 + 3, 627 + 3, 628 + 3, 0, 0, 0, 0, 0, 0, 0, 629 + 3, 630 + 3, 631 + 3, 632 + 3, 633 + 3])) from rfl) rfl
theorem ww_Md_high (G : GG) (v : Int32) : mm_pf 12 21 (.int v) (hp G) 618 = some (hp (gsi G 618 21 v)) := hp_pf (show sh 618 = some (.inr (12, [0, 619 + 3, 0, 0, 620 + 3, 621 + 3, 622 + 3, 0, 0, 623 + 3, 624 + 3, 625 + 3, 626 + 3, 627 + 3, 628 + 3, 0, 0, 0, 0, 0, 0, 0, 629 + 3, 630 + 3, 631 + 3, 632 + 3, 633 + 3])) from rfl) rfl
theorem gg_Md_belonged (G : GG) : mm_gr 12 22 (hp G) 618 = some (629) := hp_gr (show sh 618 = some (.inr (12, [0, 619 + 3, 0, 0, 620 + 3, 621 + 3, 622 + 3, 0, 0, 623 + 3, 624 + 3, 625 + 3, 626 + 3, 627 + 3, 628 + 3, 0, 0, 0, 0, 0, 0, 0, 629 + 3, 630 + 3, 631 + 3, 632 + 3, 633 + 3])) from rfl) rfl
theorem gg_Md_valued (G : GG) : mm_gr 12 23 (hp G) 618 = some (630) := hp_gr (show sh 618 = some (.inr (12, [0, 619 + 3, 0, 0, 620 + 3, 621 + 3, 622 + 3, 0, 0, 623 + 3, 624 + 3, 625 + 3, 626 + 3, 627 + 3, 628 + 3, 0, 0, 0, 0, 0, 0, 0, 629 + 3, 630 + 3, 631 + 3, 632 + 3, 633 + 3])) from rfl) rfl
theorem gg_Md_queue (G : GG) : mm_gr 12 24 (hp G) 618 = some (631) := hp_gr (show sh 618 = some (.inr (12, [0, 619 + 3, 0, 0, 620 + 3, 621 + 3, 622 + 3, 0, 0, 623 + 3, 624 + 3, 625 + 3, 626 + 3, 627 + 3, 628 + 3, 0, 0, 0, 0, 0, 0, 0, 629 + 3, 630 + 3, 631 + 3, 632 + 3, 633 + 3])) from rfl) rfl
theorem gg_Md_memory (G : GG) : mm_gr 12 25 (hp G) 618 = some (632) := hp_gr (show sh 618 = some (.inr (12, [0, 619 + 3, 0, 0, 620 + 3, 621 + 3, 622 + 3, 0, 0, 623 + 3, 624 + 3, 625 + 3, 626 + 3, 627 + 3, 628 + 3, 0, 0, 0, 0, 0, 0, 0, 629 + 3, 630 + 3, 631 + 3, 632 + 3, 633 + 3])) from rfl) rfl
theorem gg_Md_longs (G : GG) : mm_gr 12 26 (hp G) 618 = some (633) := hp_gr (show sh 618 = some (.inr (12, [0, 619 + 3, 0, 0, 620 + 3, 621 + 3, 622 + 3, 0, 0, 623 + 3, 624 + 3, 625 + 3, 626 + 3, 627 + 3, 628 + 3, 0, 0, 0, 0, 0, 0, 0, 629 + 3, 630 + 3, 631 + 3, 632 + 3, 633 + 3])) from rfl) rfl
theorem rr_Md_tape (G : GG) {i : Nat} (hi : i < 1000) : mm_li (hp G) (619) (nI i) = some (G.1 (619) i) := hp_li (show sh (619) = some (.inl (0, 1000)) from rfl) hi (by decide)
theorem uu_Md_tape (G : GG) {i : Nat} (hi : i < 1000) (x : Int32) : mm_si (hp G) (619) (nI i) x = some (hp (gsi G (619) i x)) := hp_si (show sh (619) = some (.inl (0, 1000)) from rfl) hi (by decide)
theorem rr_Md_sort (G : GG) {i : Nat} (hi : i < 1002) : mm_li (hp G) (620) (nI i) = some (G.1 (620) i) := hp_li (show sh (620) = some (.inl (0, 1002)) from rfl) hi (by decide)
theorem uu_Md_sort (G : GG) {i : Nat} (hi : i < 1002) (x : Int32) : mm_si (hp G) (620) (nI i) x = some (hp (gsi G (620) i x)) := hp_si (show sh (620) = some (.inl (0, 1002)) from rfl) hi (by decide)
theorem rr_Md_place (G : GG) {i : Nat} (hi : i < 1002) : mm_li (hp G) (621) (nI i) = some (G.1 (621) i) := hp_li (show sh (621) = some (.inl (0, 1002)) from rfl) hi (by decide)
theorem uu_Md_place (G : GG) {i : Nat} (hi : i < 1002) (x : Int32) : mm_si (hp G) (621) (nI i) x = some (hp (gsi G (621) i x)) := hp_si (show sh (621) = some (.inl (0, 1002)) from rfl) hi (by decide)
theorem rr_Md_value (G : GG) {i : Nat} (hi : i < 1002) : mm_ll (hp G) (622) (nI i) = some (G.2.1 (622) i) := hp_ll (show sh (622) = some (.inl (1, 1002)) from rfl) hi (by decide)
theorem uu_Md_value (G : GG) {i : Nat} (hi : i < 1002) (x : Int64) : mm_sl (hp G) (622) (nI i) x = some (hp (gsl G (622) i x)) := hp_sl (show sh (622) = some (.inl (1, 1002)) from rfl) hi (by decide)
theorem rr_Md_words (G : GG) {i : Nat} (hi : i < 38) : mm_ll (hp G) (623) (nI i) = some (G.2.1 (623) i) := hp_ll (show sh (623) = some (.inl (1, 38)) from rfl) hi (by decide)
theorem uu_Md_words (G : GG) {i : Nat} (hi : i < 38) (x : Int64) : mm_sl (hp G) (623) (nI i) x = some (hp (gsl G (623) i x)) := hp_sl (show sh (623) = some (.inl (1, 38)) from rfl) hi (by decide)
theorem rr_Md_tables (G : GG) {i : Nat} (hi : i < 106) : mm_li (hp G) (624) (nI i) = some (G.1 (624) i) := hp_li (show sh (624) = some (.inl (0, 106)) from rfl) hi (by decide)
theorem uu_Md_tables (G : GG) {i : Nat} (hi : i < 106) (x : Int32) : mm_si (hp G) (624) (nI i) x = some (hp (gsi G (624) i x)) := hp_si (show sh (624) = some (.inl (0, 106)) from rfl) hi (by decide)
theorem rr_Md_wheres (G : GG) {i : Nat} (hi : i < 292) : mm_li (hp G) (625) (nI i) = some (G.1 (625) i) := hp_li (show sh (625) = some (.inl (0, 292)) from rfl) hi (by decide)
theorem uu_Md_wheres (G : GG) {i : Nat} (hi : i < 292) (x : Int32) : mm_si (hp G) (625) (nI i) x = some (hp (gsi G (625) i x)) := hp_si (show sh (625) = some (.inl (0, 292)) from rfl) hi (by decide)
theorem rr_Md_names (G : GG) {i : Nat} (hi : i < 8) : mm_ll (hp G) (626) (nI i) = some (G.2.1 (626) i) := hp_ll (show sh (626) = some (.inl (1, 8)) from rfl) hi (by decide)
theorem uu_Md_names (G : GG) {i : Nat} (hi : i < 8) (x : Int64) : mm_sl (hp G) (626) (nI i) x = some (hp (gsl G (626) i x)) := hp_sl (show sh (626) = some (.inl (1, 8)) from rfl) hi (by decide)
theorem rr_Md_lines (G : GG) {i : Nat} (hi : i < 321) : mm_li (hp G) (627) (nI i) = some (G.1 (627) i) := hp_li (show sh (627) = some (.inl (0, 321)) from rfl) hi (by decide)
theorem uu_Md_lines (G : GG) {i : Nat} (hi : i < 321) (x : Int32) : mm_si (hp G) (627) (nI i) x = some (hp (gsi G (627) i x)) := hp_si (show sh (627) = some (.inl (0, 321)) from rfl) hi (by decide)
theorem rr_Md_state (G : GG) {i : Nat} (hi : i < 9766) : mm_li (hp G) (628) (nI i) = some (G.1 (628) i) := hp_li (show sh (628) = some (.inl (0, 9766)) from rfl) hi (by decide)
theorem uu_Md_state (G : GG) {i : Nat} (hi : i < 9766) (x : Int32) : mm_si (hp G) (628) (nI i) x = some (hp (gsi G (628) i x)) := hp_si (show sh (628) = some (.inl (0, 9766)) from rfl) hi (by decide)
theorem rr_Md_belonged (G : GG) {i : Nat} (hi : i < 4) : mm_lb (hp G) (629) (nI i) = some (G.1 (629) i) := hp_lb (by decide) (show sh (629) = some (.inl (3, 4)) from rfl) hi (by decide)
theorem uu_Md_belonged (G : GG) {i : Nat} (hi : i < 4) (x : Int32) : mm_sb (hp G) (629) (nI i) x = some (hp (gsi G (629) i (vp_nar .boolean x))) := hp_sb (by decide) (show sh (629) = some (.inl (3, 4)) from rfl) hi (by decide)
theorem rr_Md_valued (G : GG) {i : Nat} (hi : i < 4) : mm_li (hp G) (630) (nI i) = some (G.1 (630) i) := hp_li (show sh (630) = some (.inl (0, 4)) from rfl) hi (by decide)
theorem uu_Md_valued (G : GG) {i : Nat} (hi : i < 4) (x : Int32) : mm_si (hp G) (630) (nI i) x = some (hp (gsi G (630) i x)) := hp_si (show sh (630) = some (.inl (0, 4)) from rfl) hi (by decide)
theorem rr_Md_queue (G : GG) {i : Nat} (hi : i < 30) : mm_li (hp G) (631) (nI i) = some (G.1 (631) i) := hp_li (show sh (631) = some (.inl (0, 30)) from rfl) hi (by decide)
theorem uu_Md_queue (G : GG) {i : Nat} (hi : i < 30) (x : Int32) : mm_si (hp G) (631) (nI i) x = some (hp (gsi G (631) i x)) := hp_si (show sh (631) = some (.inl (0, 30)) from rfl) hi (by decide)
theorem rr_Md_memory (G : GG) {i : Nat} (hi : i < 8) : mm_li (hp G) (632) (nI i) = some (G.1 (632) i) := hp_li (show sh (632) = some (.inl (0, 8)) from rfl) hi (by decide)
theorem uu_Md_memory (G : GG) {i : Nat} (hi : i < 8) (x : Int32) : mm_si (hp G) (632) (nI i) x = some (hp (gsi G (632) i x)) := hp_si (show sh (632) = some (.inl (0, 8)) from rfl) hi (by decide)
theorem rr_Md_longs (G : GG) {i : Nat} (hi : i < 30) : mm_li (hp G) (633) (nI i) = some (G.1 (633) i) := hp_li (show sh (633) = some (.inl (0, 30)) from rfl) hi (by decide)
theorem uu_Md_longs (G : GG) {i : Nat} (hi : i < 30) (x : Int32) : mm_si (hp G) (633) (nI i) x = some (hp (gsi G (633) i x)) := hp_si (show sh (633) = some (.inl (0, 30)) from rfl) hi (by decide)
/-- the addresses of plans, lines, states -/
def adPl (p : Nat) : Prop := p = 7 ∨ p = 38 ∨ p = 59
def adLn (l : Nat) : Prop := l = 28 ∨ l = 80 ∨ l = 83
def adSt (s : Nat) : Prop := ∃ k, k < 19 ∧ s = 86 + 28 * k
theorem sh_St {s : Nat} (h : adSt s) {o : Nat} (ho : o < 28) : sh (s + o) = shSt s o := by
  obtain ⟨k, hk, rfl⟩ := h
  unfold sh
  have e1 : (86 + 28 * k + o - 86) / 28 = k := by omega
  have e2 : (86 + 28 * k + o - 86) % 28 = o := by omega
  repeat rw [if_neg (by omega)]
  rw [if_pos (by omega), e1, e2]
theorem adSt.ok {s : Nat} (h : adSt s) : okSt s := ⟨sh_St h (o := 0) (by decide), sh_St h (o := 14) (by decide), sh_St h (o := 15) (by decide), sh_St h (o := 7) (by decide)⟩
theorem adSt.rw {s : Nat} (h : adSt s) : okRw (s + 1) := ⟨sh_St h (o := 1) (by decide), sh_St h (o := 2) (by decide)⟩
theorem adSt.pt {s : Nat} (h : adSt s) : okPt (s + 3) := ⟨sh_St h (o := 3) (by decide), sh_St h (o := 4) (by decide), sh_St h (o := 5) (by decide), sh_St h (o := 6) (by decide)⟩
theorem adSt.jb {s : Nat} (h : adSt s) : okJb (s + 8) := ⟨sh_St h (o := 8) (by decide), sh_St h (o := 9) (by decide), sh_St h (o := 10) (by decide)⟩
theorem adSt.sd {s : Nat} (h : adSt s) : okLv (s + 11) := ⟨sh_St h (o := 11) (by decide), sh_St h (o := 12) (by decide), sh_St h (o := 13) (by decide)⟩
theorem adSt.lv {s : Nat} (h : adSt s) {i : Nat} (hi : i < 4) : okLv (s + 16 + 3 * i) := by
  have e : ∀ o, o < 3 → sh (s + 16 + 3 * i + o) = shLv (s + 16 + 3 * i) o := fun o ho => by
    rw [show s + 16 + 3 * i + o = s + (16 + 3 * i + o) by omega, sh_St h (by omega), show 16 + 3 * i + o = (3 * i + o) + 16 by omega]
    show (if 3 * i + o < 12 then shLv (s + 16 + 3 * ((3 * i + o) / 3)) ((3 * i + o) % 3) else none) = _
    rw [if_pos (by omega), show (3 * i + o) / 3 = i by omega, show (3 * i + o) % 3 = o by omega]
  exact ⟨e 0 (by decide), e 1 (by decide), e 2 (by decide)⟩
theorem adPl.ok {p : Nat} (h : adPl p) : okPl p := by
  rcases h with rfl | rfl | rfl <;> exact ⟨rfl, rfl, rfl, rfl, rfl, rfl, rfl⟩
theorem adPl.ch {p : Nat} (h : adPl p) : okWh (p + 7) := by
  rcases h with rfl | rfl | rfl <;> exact ⟨rfl, rfl, rfl, rfl, rfl, rfl, rfl⟩
theorem adPl.pa {p : Nat} (h : adPl p) : okWh (p + 14) := by
  rcases h with rfl | rfl | rfl <;> exact ⟨rfl, rfl, rfl, rfl, rfl, rfl, rfl⟩
theorem adLn.ok {l : Nat} (h : adLn l) : okLn l := by
  rcases h with rfl | rfl | rfl <;> exact ⟨rfl, rfl, rfl⟩
