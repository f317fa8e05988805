section CWJ
variable {Z G G' : GG} {p : Nat} {P : PP} {T : TT} {A A' : AS} {U : List AS} {cu : CU}
/-- BEGIN -/
theorem c_begin (W : CW Z G p P T A U cu) {x lo hi w : Int32} (hel : ∀ G1, SS G1 (lsNow G1) p P A → f_St_eligible [.ref (lsNow G1), .int x, .int lo, .int hi] (hp G1) = some (some (.int w), hp G1)) (hw : ∀ r, bt w r = true → bt (visA A) r = true) (f : Nat) : ∃ G', mm_run p_Ls_begin (f + 1) 15 [.ref 1, .int x, .int lo, .int hi] [] (hp G) = some (some (.int (begO A w)), hp G') ∧ CW Z G' p P T (lauO P A w).2 (keepI U A (begO A w)) cu := by
  rw [e_Ls_begin_15]
  obtain ⟨G1, r1, W1, HS, e1⟩ := c_aside W (fun h3 => (mm_gr 11 13 h3 1).bind fun r4 => mm_ci (f_St_launch [.ref r4, .int x, .int lo, .int hi] h3) fun x6 h5 => if x6 = 0 then (some (some (.int (-1)), h5) : Option (Option Value × mm_H)) else mm_cv (f_Ls_remember [.ref 1] h5) fun h7 => (mm_gr 11 13 h7 1).bind fun r8 => (mm_gr 8 0 h7 r8).bind fun r9 => (mm_gi 7 3 h7 r9).bind fun x10 => mm_ci (f_Ji_bitCount [.int x10] h7) fun x12 h11 => some (some (.int x12), h11))
  obtain ⟨⟨⟨a1, a2, a3⟩, a4, a5⟩, -⟩ := id W1
  obtain ⟨G2, s1, s2, s3⟩ := c_launch W1.ss W1.inv (hel G1 W1.ss) hw
  rw [r1, W1.gn, Option.bind_some, s1, ci_some]
  have W2 := W1.now s3 s2 (lauO_inv W1.inv hw)
  have HS2 : SS G2 (lsSp G2) p P A := by
    have e2 : lsSp G2 = lsSp G1 := by
      unfold lsSp
      rw [(s3 1 (fun h => by unfold inR at h; have := a1.1.lo; omega)).2.2]
    rw [e2]
    exact HS.apart a1.1 a3 s3
  unfold keepI
  cases hc : canLau A w
  · have h1 : (lauO P A w).1 = false := by unfold lauO; rw [hc]; rfl
    have h2 : begO A w = -1 := by rw [begO_ne]; exact hc
    rw [h1, h2, if_pos (by decide), if_pos rfl]
    exact ⟨G2, rfl, W2⟩
  · have h1 : (lauO P A w).1 = true := by unfold lauO; rw [hc]; rfl
    have h3 : (lauO P A w).2 = lauA P A w := by unfold lauO; rw [hc]; rfl
    have h2 : ¬ (begO A w = -1) := by rw [begO_ne, hc]; decide
    obtain ⟨G3, u1, u2, -⟩ := c_remember W2 HS2 W1.inv
    have hch : G3.1 (lsNow G3 + 1) 3 = w := by rw [u2.ss.rw.1.2.2, h3, lauA_C]
    rw [h1, if_neg (by decide), u1, cv_some, u2.gn, Option.bind_some, gg_St_rows _ u2.ss.os, Option.bind_some, gg_Rw_chosen _ u2.ss.1.1.rw, Option.bind_some, hch, s_Ji_bitCount, ci_some, if_neg h2]
    refine ⟨G3, ?_, u2⟩
    unfold begO
    rw [hc]
    rfl
theorem k_begin (W : CW Z G p P T A U cu) (x lo hi : Int32) : ∃ G', f_Ls_begin [.ref 1, .int x, .int lo, .int hi] (hp G) = some (some (.int (begO A (begS P A x lo hi))), hp G') ∧ CW Z G' p P T (lauO P A (begS P A x lo hi)).2 (keepI U A (begO A (begS P A x lo hi))) cu := by
  rw [e_Ls_begin 1 _ _ _ _ (ob_Ls G)]
  unfold begS
  by_cases e : x = -1
  · rw [if_pos e, if_pos e, e]
    exact c_begin W (fun G1 H => s_St_would H lo hi) (fun r hr => wouldA_vis W.inv hr) _
  · rw [if_neg e, if_neg e, k_isIndex W, ci_some]
    cases hx : isIx P x
    · rw [if_pos (by decide)]
      have h2 : begO A 0 = -1 := by rw [begO_ne]; exact canLau_0 A
      have h3 : (lauO P A 0).2 = A := by unfold lauO; rw [canLau_0]; rfl
      rw [show (if false = true then eligA P A x.toNatClampNeg lo hi else 0) = 0 from rfl, h2, h3]
      exact ⟨G, rfl, W⟩
    · obtain ⟨i, hi', rfl⟩ := (isIx_iff W.inv.ni x).mp hx
      rw [if_neg (by decide), show (if true = true then eligA P A (nI i).toNatClampNeg lo hi else 0) = eligA P A (nI i).toNatClampNeg lo hi from rfl, nI_tn (by have := W.inv.ni; omega)]
      exact c_begin W (fun G1 H => s_St_eligible H hi' lo hi) (fun r hr => eligA_vis W.inv hr) _
/-- a number of the object itself is changed -/
theorem CW.num (W : CW Z G p P T A U cu) {g : Nat → Int32} {U' : List AS} {cu' : CU} (h4 : g 4 = G.1 1 4) (h5 : g 5 = nI U'.length) (hU : ∃ t, U = U' ++ t) (h6 : g 6 = cu'.1 ∧ g 7 = cu'.2.1 ∧ g 8 = cu'.2.2) : CW Z (gsa G 1 g) p P T A U' cu' := by
  obtain ⟨⟨⟨a1, a2, a3⟩, a4, a5⟩, ⟨b1, b2, b3, b4⟩, ⟨H, h⟩, ⟨o, o1, o2, o3, o4, o5⟩, w, c, z⟩ := W
  obtain ⟨t, rfl⟩ := hU
  have hoff : ∀ n, n ≠ 1 → n ≠ 37 → (gsa G 1 g).1 n = G.1 n ∧ (gsa G 1 g).2.1 n = G.2.1 n ∧ (gsa G 1 g).2.2 n = G.2.2 n := fun n n1 n2 => ⟨by rw [gsa_i, if_neg n1], rfl, rfl⟩
  have hp3 := H.1.2
  refine ⟨⟨⟨a1, a2, a3⟩, a4, a5⟩, ⟨b1, ?_, ?_, b4⟩, ⟨H.refs hoff, h⟩, ⟨o, o1, by rw [gsa_i, if_pos rfl, h4]; exact o2, by rw [List.length_append] at o3; omega, by rw [gsa_i, if_pos rfl]; exact h5, fun j hj => ?_⟩, fun s hs => ?_, by rw [gsa_i, if_pos rfl]; exact h6, z.tr ⟨fun n hn => hoff n (fun e => hn (Or.inl e)) (fun e => hn (Or.inr (Or.inl (by omega)))), fun k _ _ => rfl⟩⟩
  · rw [(hoff p (by rcases hp3 with e | e | e <;> omega) (by rcases hp3 with e | e | e <;> omega)).1]; exact b2
  · exact b3.off (W := fun n => n = 1 ∨ n = 37) (fun n hn => hoff n (fun e => hn (Or.inl e)) (fun e => hn (Or.inr e))) (fun o ho q => by rcases hp3 with e | e | e <;> omega)
  · obtain ⟨z1, z2⟩ := o5 j (by rw [List.length_append]; omega)
    rw [List.getElem_append_left hj] at z1 z2
    exact ⟨z1.refs hoff, z2⟩
  · have l2 := hs.lo
    exact (w s hs).off (W := fun n => n = 1 ∨ n = 37) (fun n hn => hoff n (fun e => hn (Or.inl e)) (fun e => hn (Or.inr e))) (fun o h1 h2 q => by omega)
/-- CRASH -/
def craU (P : PP) (A : AS) (U : List AS) : List AS := if (fallO P A).1 = -1 then U else []
theorem k_crash (W : CW Z G p P T A U cu) : ∃ G', f_Ls_crash [.ref 1] (hp G) = some (some (.int (fallO P A).1), hp G') ∧ CW Z G' p P T (fallO P A).2 (craU P A U) cu := by
  rw [e_Ls_crash 1 _ (ob_Ls G)]
  obtain ⟨G2, s1, s2, s3⟩ := c_fall W.ss W.inv
  rw [W.gn, Option.bind_some, s1, ci_some]
  have W2 := W.now s3 s2 (fallO_inv W.inv)
  unfold craU
  by_cases e : (fallO P A).1 = -1
  · rw [if_pos e, if_pos e]
    exact ⟨G2, rfl, W2⟩
  · rw [if_neg e, if_neg e, ww_Ls_kept, Option.bind_some]
    refine ⟨_, rfl, W2.num (g := upd (G2.1 1) 5 0) (upd_ne _ _ (by decide)) (upd_at _ _ _) ⟨U, rfl⟩ ?_⟩
    rw [upd_ne _ _ (by decide), upd_ne _ _ (by decide), upd_ne _ _ (by decide)]
    exact W2.2.2.2.2.2.1
/-- OPEN -/
def opeC (P : PP) (cu : CU) (x k : Int32) : CU := if isIx P x then (x, k, -1) else cu
theorem k_open (W : CW Z G p P T A U cu) (x k : Int32) : ∃ G', f_Ls_open [.ref 1, .int x, .int k] (hp G) = some (some (.int (b2 (isIx P x))), hp G') ∧ CW Z G' p P T A U (opeC P cu x k) := by
  rw [e_Ls_open 1 _ _ _ (ob_Ls G), k_isIndex W, ci_some]
  unfold opeC
  cases hx : isIx P x
  · rw [if_pos (by decide)]
    exact ⟨G, rfl, W⟩
  · obtain ⟨o, o1, o2, o3, o4, o5⟩ := W.2.2.2.1
    rw [if_neg (by decide), ww_Ls_cursorIndex, Option.bind_some, ww_Ls_cursorKey, Option.bind_some, ww_Ls_fetched, Option.bind_some]
    have e : gsi (gsi (gsi G 1 6 x) 1 7 k) 1 8 (-1) = gsa G 1 (upd (upd (upd (G.1 1) 6 x) 7 k) 8 (-1)) := by
      refine Prod.ext (funext fun n => ?_) rfl
      rw [gsi_i, gsa_i]
      by_cases hn : n = 1
      · subst hn
        rw [if_pos rfl, if_pos rfl, gsi_i, if_pos rfl, gsi_i, if_pos rfl]
      · rw [if_neg hn, if_neg hn, gsi_i, if_neg hn, gsi_i, if_neg hn]
    rw [e]
    refine ⟨_, rfl, W.num (by rw [upd_ne _ _ (by decide), upd_ne _ _ (by decide), upd_ne _ _ (by decide)]) (by rw [upd_ne _ _ (by decide), upd_ne _ _ (by decide), upd_ne _ _ (by decide)]; exact o4) ⟨[], by simp⟩ ?_⟩
    refine ⟨?_, ?_, ?_⟩
    · rw [upd_ne _ _ (by decide), upd_ne _ _ (by decide), upd_at]; rfl
    · rw [upd_ne _ _ (by decide), upd_at]; rfl
    · rw [upd_at]; rfl
/-- UNDO -/
theorem k_undo0 (W : CW Z G p P T A [] cu) : f_Ls_undo [.ref 1] (hp G) = some (some (.int 0), hp G) := by
  obtain ⟨o, o1, o2, o3, o4, o5⟩ := W.2.2.2.1
  rw [e_Ls_undo 1 _ (ob_Ls G), gg_Ls_kept, Option.bind_some, o4, if_pos (by rfl)]
theorem k_undo1 {B : AS} (W : CW Z G p P T A (U ++ [B]) cu) : ∃ G', f_Ls_undo [.ref 1] (hp G) = some (some (.int 1), hp G') ∧ CW Z G' p P T B U cu := by
  obtain ⟨⟨⟨a1, a2, a3⟩, a4, a5⟩, ⟨b1, b2, b3, b4⟩, ⟨H, h⟩, ⟨o, o1, o2, o3, o4, o5⟩, w, c, z⟩ := id W
  have hlen : (U ++ [B]).length = U.length + 1 := by rw [List.length_append]; rfl
  rw [hlen] at o3 o4
  have hslot : mm_rem (nI o + nI U.length) 16 = nI ((o + U.length) % 16) := by rw [i_add]; exact n_rem (b := 16) (by omega) (by decide) (by decide)
  have hsl : (o + U.length) % 16 < 16 := Nat.mod_lt _ (by decide)
  obtain ⟨ds, hsh⟩ : ∃ ds, sh (lsNow G) = some (.inr (8, ds)) := ⟨_, a1.1.ok.1⟩
  have hB := o5 U.length (by omega)
  rw [show (U ++ [B])[U.length]'(by omega) = B by simp] at hB
  obtain ⟨HB, hB⟩ := hB
  have hne0 : ¬ (nI (U.length + 1) = 0) := fun e => by
    have := n_inj (a := U.length + 1) (b := 0) (by omega) (by omega) e
    omega
  rw [e_Ls_undo 1 _ (ob_Ls G), gg_Ls_kept, Option.bind_some, o4, if_neg hne0, Option.bind_some, show nI (U.length + 1) - 1 = nI U.length from n_sub (b := 1) (by omega), ww_Ls_kept, Option.bind_some, gg_Ls_oldest, Option.bind_some, gg_Ls_kept, Option.bind_some, show (gsi G 1 5 (nI U.length)).1 1 4 = nI o by rw [gsi_i, if_pos rfl, upd_ne _ _ (by decide)]; exact o2, show (gsi G 1 5 (nI U.length)).1 1 5 = nI U.length by rw [gsi_i, if_pos rfl, upd_at], hslot]
  rw [gg_Ls_past, Option.bind_some, rr_Ls_past _ hsl, Option.bind_some, Option.bind_some, gg_Ls_now, Option.bind_some, show (gsi G 1 5 (nI U.length)).2.2 1 13 = lsNow G from rfl, show (gsi G 1 5 (nI U.length)).2.2 37 ((o + U.length) % 16) = lsPa G ((o + U.length) % 16) from rfl, hp_sr (show sh 37 = some (.inl (4, 16)) from rfl) hsl (by decide) hsh, Option.bind_some, ww_Ls_now, Option.bind_some]
  generalize hG2 : gsr (gsr (gsi G 1 5 (nI U.length)) 37 ((o + U.length) % 16) (lsNow G)) 1 13 (lsPa G ((o + U.length) % 16)) = G2
  have hoff : ∀ n, n ≠ 1 → n ≠ 37 → G2.1 n = G.1 n ∧ G2.2.1 n = G.2.1 n ∧ G2.2.2 n = G.2.2 n := fun n n1 n2 => by
    rw [← hG2]
    refine ⟨?_, rfl, ?_⟩
    · show (gsi G 1 5 (nI U.length)).1 n = _; rw [gsi_i, if_neg n1]
    · rw [gsr_r, if_neg n1, gsr_r, if_neg n2]; rfl
  have enow : lsNow G2 = lsPa G ((o + U.length) % 16) := by
    unfold lsNow
    rw [← hG2, gsr_eq, if_pos rfl]
  have esp : lsSp G2 = lsSp G := by
    unfold lsSp
    rw [← hG2, gsr_eq, if_neg (by decide), gsr_r, if_neg (by decide)]; rfl
  have epa : ∀ k, lsPa G2 k = if k = (o + U.length) % 16 then lsNow G else lsPa G k := fun k => by
    unfold lsPa
    rw [← hG2, gsr_r, if_neg (by decide), gsr_eq]; rfl
  have e11 : ∀ k, G2.1 1 k = if k = 5 then nI U.length else G.1 1 k := fun k => by
    rw [← hG2]
    show (gsi G 1 5 (nI U.length)).1 1 k = _
    rw [gsi_i, if_pos rfl]
    by_cases e : k = 5
    · rw [e, upd_at, if_pos rfl]
    · rw [upd_ne _ _ e, if_neg e]
  have hp3 := H.1.2
  refine ⟨G2, rfl, ⟨⟨by rw [enow]; exact (a4 _ hsl).1, by rw [esp]; exact a2, by rw [enow, esp]; exact (a4 _ hsl).2.2⟩, fun k hk => ?_, fun j k hj hk e => ?_⟩, ⟨?_, ?_, ?_, b4⟩, ⟨by rw [enow]; exact HB.refs hoff, hB⟩, ⟨o, o1, by rw [e11, if_neg (by decide)]; exact o2, by omega, by rw [e11, if_pos rfl], fun j hj => ?_⟩, fun s hs => ?_, by rw [e11, e11, e11, if_neg (by decide), if_neg (by decide), if_neg (by decide)]; exact c, z.tr ⟨fun n hn => hoff n (fun e => hn (Or.inl e)) (fun e => hn (Or.inr (Or.inl (by omega)))), fun k k1 k2 => by rw [← hG2, gsr_eq, if_neg k1, gsr_r, if_neg (by decide)]; rfl⟩⟩
  · rw [epa, enow, esp]
    by_cases e : k = (o + U.length) % 16
    · rw [if_pos e]
      exact ⟨a1, fun q => (a4 _ hsl).2.1 q.symm, a3⟩
    · rw [if_neg e]
      exact ⟨(a4 k hk).1, fun q => e (a5 k _ hk hsl q), (a4 k hk).2.2⟩
  · rw [epa, epa] at e
    by_cases ej : j = (o + U.length) % 16
    · by_cases ek : k = (o + U.length) % 16
      · rw [ej, ek]
      · rw [if_pos ej, if_neg ek] at e
        exact absurd e.symm (a4 k hk).2.1
    · by_cases ek : k = (o + U.length) % 16
      · rw [if_neg ej, if_pos ek] at e
        exact absurd e (a4 j hj).2.1
      · rw [if_neg ej, if_neg ek] at e
        exact a5 j k hj hk e
  · rw [← hG2, gsr_eq, if_neg (by decide), gsr_r, if_neg (by decide)]; exact b1
  · rw [(hoff p (by rcases hp3 with e | e | e <;> omega) (by rcases hp3 with e | e | e <;> omega)).1]; exact b2
  · exact b3.off (W := fun n => n = 1 ∨ n = 37) (fun n hn => hoff n (fun e => hn (Or.inl e)) (fun e => hn (Or.inr e))) (fun o ho q => by rcases hp3 with e | e | e <;> omega)
  · obtain ⟨z1, z2⟩ := o5 j (by omega)
    rw [List.getElem_append_left hj] at z1 z2
    rw [epa, if_neg (by omega)]
    exact ⟨z1.refs hoff, z2⟩
  · have l2 := hs.lo
    exact (w s hs).off (W := fun n => n = 1 ∨ n = 37) (fun n hn => hoff n (fun e => hn (Or.inl e)) (fun e => hn (Or.inr e))) (fun o h1 h2 q => by omega)
end CWJ
