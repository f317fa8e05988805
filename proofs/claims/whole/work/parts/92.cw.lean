/-! LEAFSWEEP (the class): what it stands for, and by hand -/
def lsNow (G : GG) : Nat := G.2.2 1 13
def lsSp (G : GG) : Nat := G.2.2 1 14
def lsPa (G : GG) (k : Nat) : Nat := G.2.2 37 k
def adS (s : Nat) : Prop := adSt s ∧ s ≠ 142
def refsOk (G : GG) : Prop := (adS (lsNow G) ∧ adS (lsSp G) ∧ lsNow G ≠ lsSp G) ∧ (∀ k, k < 16 → adS (lsPa G k) ∧ lsPa G k ≠ lsNow G ∧ lsPa G k ≠ lsSp G) ∧ ∀ j k, j < 16 → k < 16 → lsPa G j = lsPa G k → j = k
/-- cursor: index, key, the last one -/
abbrev CU := Int32 × Int32 × Int32
def undoC (G : GG) (p : Nat) (P : PP) (U : List AS) : Prop := ∃ o, o < 16 ∧ G.1 1 4 = nI o ∧ U.length ≤ 16 ∧ G.1 1 5 = nI U.length ∧ ∀ j (h : j < U.length), SS G (lsPa G ((o + j) % 16)) p P U[j] ∧ INV P U[j]
/-- all else is as it was in Z -/
def wR (n : Nat) : Prop := n = 1 ∨ (31 ≤ n ∧ n ≤ 37) ∨ (86 ≤ n ∧ n < 618)
def fixR (Z G : GG) : Prop := eqOff wR Z G ∧ ∀ k, k ≠ 13 → k ≠ 14 → G.2.2 1 k = Z.2.2 1 k
theorem fixR.rf {G : GG} : fixR G G := ⟨eqOff.rf, fun _ _ _ => rfl⟩
theorem fixR.tr {G1 G2 G3 : GG} (h1 : fixR G1 G2) (h2 : fixR G2 G3) : fixR G1 G3 := ⟨h1.1.tr h2.1, fun k k1 k2 => (h2.2 k k1 k2).trans (h1.2 k k1 k2)⟩
theorem adSt.hi {s : Nat} (h : adSt s) : s + 28 ≤ 618 := by obtain ⟨k, hk, rfl⟩ := h; omega
theorem fixR.st {G G' : GG} {s : Nat} (hs : adSt s) (hq : eqOff (inR s (s + 28)) G G') : fixR G G' := by
  have h1 := hs.lo
  have h2 := hs.hi
  exact ⟨hq.mono (fun n h => by unfold inR at h; unfold wR; omega), fun k _ _ => by rw [(hq 1 (fun h => by unfold inR at h; omega)).2.2]⟩
def CW (Z G : GG) (p : Nat) (P : PP) (T : TT) (A : AS) (U : List AS) (cu : CU) : Prop := refsOk G ∧ (G.2.2 1 9 = p ∧ G.1 p 9 = nI (pBt P) ∧ isTd G p T ∧ okTd P T) ∧ (SS G (lsNow G) p P A ∧ INV P A) ∧ undoC G p P U ∧ (∀ s, adSt s → wfS G s) ∧ (G.1 1 6 = cu.1 ∧ G.1 1 7 = cu.2.1 ∧ G.1 1 8 = cu.2.2) ∧ fixR Z G
section CWS
variable {Z G G' : GG} {p : Nat} {P : PP} {T : TT} {A A' : AS} {U : List AS} {cu : CU}
theorem CW.inv (W : CW Z G p P T A U cu) : INV P A := W.2.2.1.2
theorem CW.ss (W : CW Z G p P T A U cu) : SS G (lsNow G) p P A := W.2.2.1.1
theorem CW.gn (W : CW Z G p P T A U cu) : mm_gr 11 13 (hp G) 1 = some (lsNow G) := gg_Ls_now G
theorem CW.gs (W : CW Z G p P T A U cu) : mm_gr 11 14 (hp G) 1 = some (lsSp G) := gg_Ls_spare G
theorem CW.gpl (W : CW Z G p P T A U cu) : mm_gr 11 9 (hp G) 1 = some p := by rw [gg_Ls_plan, W.2.1.1]
theorem SS.apart {s t : Nat} (H : SS G s p P A) (ht : adSt t) (hne : t ≠ s) (hq : eqOff (inR t (t + 28)) G G') : SS G' s p P A := by
  have hap := ad_apart ht H.1.1 hne
  have l1 := H.1.2.lo
  have l2 := ht.lo
  exact H.far hq (fun n h => by unfold inR at h; omega)
/-- the state that is now is changed alone -/
theorem CW.now (W : CW Z G p P T A U cu) (hq : eqOff (inR (lsNow G) (lsNow G + 28)) G G') (H' : SS G' (lsNow G) p P A') (h' : INV P A') : CW Z G' p P T A' U cu := by
  obtain ⟨⟨⟨a1, a2, a3⟩, a4, a5⟩, ⟨b1, b2, b3, b4⟩, -, ⟨o, o1, o2, o3, o4, o5⟩, w, c, z⟩ := W
  have l2 := a1.1.lo
  have lp := H'.1.2.lo
  have hlow : ∀ n, n < 86 → G'.1 n = G.1 n ∧ G'.2.1 n = G.2.1 n ∧ G'.2.2 n = G.2.2 n := fun n hn => hq n (fun h => by unfold inR at h; omega)
  have e1 := (hlow 1 (by omega)).2.2
  have e37 := (hlow 37 (by omega)).2.2
  have enow : lsNow G' = lsNow G := by unfold lsNow; rw [e1]
  have esp : lsSp G' = lsSp G := by unfold lsSp; rw [e1]
  have epa : ∀ k, lsPa G' k = lsPa G k := fun k => by unfold lsPa; rw [e37]
  refine ⟨?_, ⟨by rw [e1]; exact b1, by rw [(hlow p (by omega)).1]; exact b2, b3.off hq (fun o ho h => by unfold inR at h; omega), b4⟩, ⟨by rw [enow]; exact H', h'⟩, ⟨o, o1, by rw [(hlow 1 (by omega)).1]; exact o2, o3, by rw [(hlow 1 (by omega)).1]; exact o4, fun j hj => ?_⟩, fun s hs => ?_, by rw [(hlow 1 (by omega)).1]; exact c, z.tr (fixR.st a1.1 hq)⟩
  · refine ⟨⟨by rw [enow]; exact a1, by rw [esp]; exact a2, by rw [enow, esp]; exact a3⟩, fun k hk => ?_, fun j k hj hk => by rw [epa, epa]; exact a5 j k hj hk⟩
    rw [epa, enow, esp]; exact a4 k hk
  · obtain ⟨q1, q2⟩ := o5 j hj
    have := a4 ((o + j) % 16) (Nat.mod_lt _ (by decide))
    rw [epa]
    exact ⟨q1.apart a1.1 (fun e => this.2.1 e.symm) hq, q2⟩
  · by_cases e : s = lsNow G
    · rw [e]; exact H'.wf
    · have hap := ad_apart hs a1.1 e
      exact (w s hs).off hq (fun o h1 h2 h => by unfold inR at h; omega)
/-- another state, in no use, is changed -/
theorem CW.other (W : CW Z G p P T A U cu) {t : Nat} (ht : adSt t) (hn : t ≠ lsNow G) (hp1 : ∀ k, k < 16 → t ≠ lsPa G k) (hq : eqOff (inR t (t + 28)) G G') (hw : wfS G' t) : CW Z G' p P T A U cu ∧ lsNow G' = lsNow G ∧ lsSp G' = lsSp G ∧ ∀ k, lsPa G' k = lsPa G k := by
  obtain ⟨⟨⟨a1, a2, a3⟩, a4, a5⟩, ⟨b1, b2, b3, b4⟩, ⟨H, h⟩, ⟨o, o1, o2, o3, o4, o5⟩, w, c, z⟩ := W
  have l2 := ht.lo
  have lp := H.1.2.lo
  have hlow : ∀ n, n < 86 → G'.1 n = G.1 n ∧ G'.2.1 n = G.2.1 n ∧ G'.2.2 n = G.2.2 n := fun n hn => hq n (fun h => by unfold inR at h; omega)
  have e1 := (hlow 1 (by omega)).2.2
  have e37 := (hlow 37 (by omega)).2.2
  have enow : lsNow G' = lsNow G := by unfold lsNow; rw [e1]
  have esp : lsSp G' = lsSp G := by unfold lsSp; rw [e1]
  have epa : ∀ k, lsPa G' k = lsPa G k := fun k => by unfold lsPa; rw [e37]
  refine ⟨⟨?_, ⟨by rw [e1]; exact b1, by rw [(hlow p (by omega)).1]; exact b2, b3.off hq (fun o ho h => by unfold inR at h; omega), b4⟩, ⟨by rw [enow]; exact H.apart ht hn hq, h⟩, ⟨o, o1, by rw [(hlow 1 (by omega)).1]; exact o2, o3, by rw [(hlow 1 (by omega)).1]; exact o4, fun j hj => ?_⟩, fun s hs => ?_, by rw [(hlow 1 (by omega)).1]; exact c, z.tr (fixR.st ht hq)⟩, enow, esp, epa⟩
  · refine ⟨⟨by rw [enow]; exact a1, by rw [esp]; exact a2, by rw [enow, esp]; exact a3⟩, fun k hk => ?_, fun j k hj hk => by rw [epa, epa]; exact a5 j k hj hk⟩
    rw [epa, enow, esp]; exact a4 k hk
  · obtain ⟨q1, q2⟩ := o5 j hj
    rw [epa]
    exact ⟨q1.apart ht (hp1 _ (Nat.mod_lt _ (by decide))) hq, q2⟩
  · by_cases e : s = t
    · rw [e]; exact hw
    · have hap := ad_apart hs ht e
      exact (w s hs).off hq (fun o h1 h2 h => by unfold inR at h; omega)
/-- what was is laid into the spare one -/
theorem c_aside (W : CW Z G p P T A U cu) {ρ : Type} (k : mm_H → Option ρ) : ∃ G', ((mm_gr 11 14 (hp G) 1).bind fun r1 => (mm_gr 11 13 (hp G) 1).bind fun r2 => mm_cv (f_St_become [.ref r1, .ref r2] (hp G)) k) = k (hp G') ∧ CW Z G' p P T A U cu ∧ SS G' (lsSp G') p P A ∧ lsNow G' = lsNow G := by
  obtain ⟨⟨⟨a1, a2, a3⟩, a4, a5⟩, -⟩ := id W
  obtain ⟨G', r1, r2, r3, r4⟩ := s_St_become W.ss a2.1 (fun e => a3 e.symm)
  rw [W.gs, Option.bind_some, W.gn, Option.bind_some, r1, cv_some]
  obtain ⟨W', e1, e2, e3⟩ := W.other a2.1 (fun e => a3 e.symm) (fun k hk e => (a4 k hk).2.2 e.symm) r4 r2.wf
  exact ⟨G', rfl, W', by rw [e2]; exact r2, e1⟩
def pushU (U : List AS) (B : AS) : List AS := if U.length < 16 then U ++ [B] else U.tail ++ [B]
theorem pushU_len (U : List AS) (B : AS) (h : U.length ≤ 16) : (pushU U B).length ≤ 16 := by
  unfold pushU
  split
  · rw [List.length_append]; simp; omega
  · rw [List.length_append, List.length_tail]; simp; omega
theorem gsr_eq (G : GG) (n k v j : Nat) : (gsr G n k v).2.2 n j = if j = k then v else G.2.2 n j := by
  rw [gsr_r, if_pos rfl]
  unfold va_up
  rfl
/-- the change of references and numbers of the object itself leaves states and plans as they are -/
theorem SS.refs {s : Nat} (H : SS G s p P A) (h1 : ∀ n, n ≠ 1 → n ≠ 37 → G'.1 n = G.1 n ∧ G'.2.1 n = G.2.1 n ∧ G'.2.2 n = G.2.2 n) : SS G' s p P A := by
  have l1 := H.1.2.lo
  have l2 := H.1.1.lo
  have hp3 := H.1.2
  refine H.off (W := fun n => n = 1 ∨ n = 37) (fun n hn => h1 n (fun e => hn (Or.inl e)) (fun e => hn (Or.inr e))) (fun o ho h => by omega) (fun o h3 h4 h => by omega) (fun o ho h => ?_)
  rcases hp3 with e | e | e <;> omega
theorem c_remember (W : CW Z G p P T A' U cu) {B : AS} (HB : SS G (lsSp G) p P B) (hB : INV P B) : ∃ G', f_Ls_remember [.ref 1] (hp G) = some (none, hp G') ∧ CW Z G' p P T A' (pushU U B) cu ∧ lsNow G' = lsNow G := by
  obtain ⟨⟨⟨a1, a2, a3⟩, a4, a5⟩, ⟨b1, b2, b3, b4⟩, ⟨H, h⟩, ⟨o, o1, o2, o3, o4, o5⟩, w, c, z⟩ := id W
  have hslot : mm_rem (nI o + nI U.length) 16 = nI ((o + U.length) % 16) := by rw [i_add]; exact n_rem (b := 16) (by omega) (by decide) (by decide)
  have hsl : (o + U.length) % 16 < 16 := Nat.mod_lt _ (by decide)
  have hshsp : ∃ ds, sh (lsSp G) = some (.inr (8, ds)) := ⟨_, a2.1.ok.1⟩
  obtain ⟨ds, hsh⟩ := hshsp
  rw [e_Ls_remember 1 _ (ob_Ls G), gg_Ls_oldest, Option.bind_some, o2, gg_Ls_kept, Option.bind_some, Option.bind_some, o4]
  -- the three changes
  have fin : ∀ (G1 : GG) (o' : Nat), o' < 16 → (∀ n, n ≠ 1 → G1.1 n = G.1 n) → G1.2 = G.2 → G1.1 1 4 = nI o' → G1.1 1 5 = nI (pushU U B).length → (G1.1 1 6 = cu.1 ∧ G1.1 1 7 = cu.2.1 ∧ G1.1 1 8 = cu.2.2) → (∀ j (hj : j < (pushU U B).length), ((o' + j) % 16 = (o + U.length) % 16 ∧ (pushU U B)[j] = B) ∨ ∃ j2, ∃ hj2 : j2 < U.length, (o' + j) % 16 = (o + j2) % 16 ∧ (o + j2) % 16 ≠ (o + U.length) % 16 ∧ (pushU U B)[j] = U[j2]) → ∃ G', ((mm_gr 11 3 (hp G1) 1).bind fun r6 => (mm_lr (hp G1) r6 (nI ((o + U.length) % 16))).bind fun r7 => (mm_gr 11 3 (hp G1) 1).bind fun r8 => (mm_gr 11 14 (hp G1) 1).bind fun r9 => (mm_sr (hp G1) r8 (nI ((o + U.length) % 16)) r9).bind fun h10 => (mm_pf 11 14 (.ref r7) h10 1).bind fun h11 => (some (none, h11) : Option (Option Value × mm_H))) = some (none, hp G') ∧ CW Z G' p P T A' (pushU U B) cu ∧ lsNow G' = lsNow G := fun G1 o' ho' g1 g2 g4 g5 g6 gU => by
    rw [gg_Ls_past, Option.bind_some, rr_Ls_past _ hsl, Option.bind_some, Option.bind_some, gg_Ls_spare, Option.bind_some, show G1.2.2 1 14 = lsSp G by unfold lsSp; rw [g2], show G1.2.2 37 ((o + U.length) % 16) = lsPa G ((o + U.length) % 16) by unfold lsPa; rw [g2], hp_sr (show sh 37 = some (.inl (4, 16)) from rfl) hsl (by decide) hsh, Option.bind_some, ww_Ls_spare, Option.bind_some]
    generalize hG2 : gsr (gsr G1 37 ((o + U.length) % 16) (lsSp G)) 1 14 (lsPa G ((o + U.length) % 16)) = G2
    have hoff : ∀ n, n ≠ 1 → n ≠ 37 → G2.1 n = G.1 n ∧ G2.2.1 n = G.2.1 n ∧ G2.2.2 n = G.2.2 n := fun n n1 n2 => by
      rw [← hG2]
      refine ⟨g1 n n1, ?_, ?_⟩
      · show G1.2.1 n = _; rw [g2]
      · rw [gsr_r, if_neg n1, gsr_r, if_neg n2, g2]
    have enow : lsNow G2 = lsNow G := by
      unfold lsNow
      rw [← hG2, gsr_eq, if_neg (by decide), gsr_r, if_neg (by decide), g2]
    have esp : lsSp G2 = lsPa G ((o + U.length) % 16) := by
      unfold lsSp
      rw [← hG2, gsr_eq, if_pos rfl]
    have epa : ∀ k, lsPa G2 k = if k = (o + U.length) % 16 then lsSp G else lsPa G k := fun k => by
      unfold lsPa
      rw [← hG2, gsr_r, if_neg (by decide), gsr_eq, g2]
    have e11 : G2.1 1 = G1.1 1 := by rw [← hG2]; rfl
    have H2 := H.refs (G' := G2) hoff
    refine ⟨G2, rfl, ⟨⟨⟨by rw [enow]; exact a1, by rw [esp]; exact (a4 _ hsl).1, by rw [enow, esp]; exact fun e => (a4 _ hsl).2.1 e.symm⟩, fun k hk => ?_, fun j k hj hk e => ?_⟩, ⟨?_, ?_, ?_, b4⟩, ⟨by rw [enow]; exact H2, h⟩, ⟨o', ho', by rw [e11]; exact g4, pushU_len U B o3, by rw [e11]; exact g5, fun j hj => ?_⟩, fun s hs => ?_, by rw [e11]; exact g6, z.tr ⟨fun n hn => hoff n (fun e => hn (Or.inl e)) (fun e => hn (Or.inr (Or.inl (by omega)))), fun k k1 k2 => by rw [← hG2, gsr_eq, if_neg k2, gsr_r, if_neg (by decide), g2]⟩⟩, enow⟩
    · rw [epa, enow, esp]
      by_cases e : k = (o + U.length) % 16
      · rw [if_pos e]
        exact ⟨a2, fun q => a3 q.symm, fun q => (a4 _ hsl).2.2 q.symm⟩
      · rw [if_neg e]
        exact ⟨(a4 k hk).1, (a4 k hk).2.1, fun q => e (a5 k _ hk hsl q)⟩
    · rw [epa, epa] at e
      by_cases ej : j = (o + U.length) % 16
      · by_cases ek : k = (o + U.length) % 16
        · rw [ej, ek]
        · rw [if_pos ej, if_neg ek] at e
          exact absurd e.symm (a4 k hk).2.2
      · by_cases ek : k = (o + U.length) % 16
        · rw [if_neg ej, if_pos ek] at e
          exact absurd e (a4 j hj).2.2
        · rw [if_neg ej, if_neg ek] at e
          exact a5 j k hj hk e
    · rw [← hG2, gsr_eq, if_neg (by decide), gsr_r, if_neg (by decide), g2]; exact b1
    · have hp3 := H.1.2
      rw [(hoff p (by rcases hp3 with e | e | e <;> omega) (by rcases hp3 with e | e | e <;> omega)).1]; exact b2
    · have hp3 := H.1.2
      exact b3.off (W := fun n => n = 1 ∨ n = 37) (fun n hn => hoff n (fun e => hn (Or.inl e)) (fun e => hn (Or.inr e))) (fun o ho q => by rcases hp3 with e | e | e <;> omega)
    · rcases gU j hj with ⟨q1, q2⟩ | ⟨j2, hj2, q1, q2, q3⟩
      · rw [epa, if_pos q1, q2]
        exact ⟨HB.refs hoff, hB⟩
      · rw [epa, q1, if_neg q2, q3]
        obtain ⟨z1, z2⟩ := o5 j2 hj2
        exact ⟨z1.refs hoff, z2⟩
    · have l2 := hs.lo
      exact (w s hs).off (W := fun n => n = 1 ∨ n = 37) (fun n hn => hoff n (fun e => hn (Or.inl e)) (fun e => hn (Or.inr e))) (fun o h1 h2 q => by omega)
  by_cases hk : U.length < 16
  · rw [if_pos (show nI U.length < (16 : Int32) from lp (n := 16) hk (by decide)), Option.bind_some, show nI U.length + 1 = nI (U.length + 1) from nI_add _ 1, ww_Ls_kept, Option.bind_some, hslot]
    have hpu : pushU U B = U ++ [B] := if_pos hk
    have c' : (gsi G 1 5 (nI (U.length + 1))).1 1 6 = cu.1 ∧ (gsi G 1 5 (nI (U.length + 1))).1 1 7 = cu.2.1 ∧ (gsi G 1 5 (nI (U.length + 1))).1 1 8 = cu.2.2 := by
      rw [gsi_i, if_pos rfl, upd_ne _ _ (by decide), upd_ne _ _ (by decide), upd_ne _ _ (by decide)]; exact c
    refine fin (gsi G 1 5 (nI (U.length + 1))) o o1 (fun n hn => by rw [gsi_i, if_neg hn]) rfl (by rw [gsi_i, if_pos rfl, upd_ne _ _ (by decide)]; exact o2) (by rw [gsi_i, if_pos rfl, upd_at, hpu, List.length_append]; rfl) c' ?_
    rw [hpu]
    intro j hj
    have hj' := hj
    rw [List.length_append] at hj'
    simp only [List.length_cons, List.length_nil] at hj'
    by_cases e : j = U.length
    · subst e
      exact Or.inl ⟨rfl, by simp⟩
    · exact Or.inr ⟨j, by omega, rfl, by omega, List.getElem_append_left (by omega)⟩
  · have hk16 : U.length = 16 := by omega
    rw [if_neg (show ¬ nI U.length < (16 : Int32) from lm (n := 16) (by omega) (by omega)), Option.bind_some, show nI o + 1 = nI (o + 1) from nI_add _ 1, show mm_rem (nI (o + 1)) 16 = nI ((o + 1) % 16) from n_rem (b := 16) (by omega) (by decide) (by decide), ww_Ls_oldest, Option.bind_some, hslot]
    have hpu : pushU U B = U.tail ++ [B] := if_neg hk
    have c' : (gsi G 1 4 (nI ((o + 1) % 16))).1 1 6 = cu.1 ∧ (gsi G 1 4 (nI ((o + 1) % 16))).1 1 7 = cu.2.1 ∧ (gsi G 1 4 (nI ((o + 1) % 16))).1 1 8 = cu.2.2 := by
      rw [gsi_i, if_pos rfl, upd_ne _ _ (by decide), upd_ne _ _ (by decide), upd_ne _ _ (by decide)]; exact c
    refine fin (gsi G 1 4 (nI ((o + 1) % 16))) ((o + 1) % 16) (Nat.mod_lt _ (by decide)) (fun n hn => by rw [gsi_i, if_neg hn]) rfl (by rw [gsi_i, if_pos rfl, upd_at]) (by rw [gsi_i, if_pos rfl, upd_ne _ _ (by decide), o4, hpu, List.length_append, List.length_tail, hk16]; rfl) c' ?_
    rw [hpu]
    intro j hj
    have hj' := hj
    rw [List.length_append, List.length_tail] at hj'
    simp only [List.length_cons, List.length_nil] at hj'
    by_cases e : j = 15
    · subst e
      refine Or.inl ⟨by omega, ?_⟩
      rw [List.getElem_append_right (by rw [List.length_tail]; omega)]
      simp
    · refine Or.inr ⟨j + 1, by omega, by omega, by omega, ?_⟩
      rw [List.getElem_append_left (by rw [List.length_tail]; omega), List.getElem_tail]
end CWS
