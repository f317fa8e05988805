/-! THE REFERENCE: what it stands for -/
theorem isMf.shift {f g : Nat → Int32} {s u : Nat} {m : List Nat} (h : isMf f s m) (h30 : m.length ≤ 30) (e : ∀ k, k < 31 → g (u + k) = f (s + k)) : isMf g u m := by
  refine ⟨?_, fun k hk => ?_⟩
  · have := e 0 (by omega)
    rw [Nat.add_zero, Nat.add_zero] at this
    rw [this]; exact h.1
  · show g (u + 1 + k) = _
    rw [Nat.add_assoc, e (1 + k) (by omega), ← Nat.add_assoc]
    exact h.2 k hk
theorem isMS.shift {f g : Nat → Int32} {a t : Nat} {P : PP} {A : AS} (H : isMS f a P A) (h : okS P A) (e : ∀ k, k < 514 → g (t + k) = f (a + k)) : isMS g t P A := by
  have hn := h.ni
  have hr := h.kr.1
  have hp12 := h.kp.1
  obtain ⟨⟨h0, h1, h2, h3⟩, hv, ⟨h4, hpt⟩, htr, hj⟩ := H
  have e0 := e 0 (by omega)
  rw [Nat.add_zero, Nat.add_zero] at e0
  refine ⟨⟨by rw [e0]; exact h0, by rw [e 1 (by omega)]; exact h1, by rw [e 2 (by omega)]; exact h2, by rw [e 3 (by omega)]; exact h3⟩, fun r hr2 => ?_, ⟨by rw [e 4 (by omega)]; exact h4, fun p hp1 => ?_⟩, fun i hi => ?_, ?_⟩
  · rw [Nat.add_assoc, e (13 + r) (by omega), ← Nat.add_assoc]; exact hv r hr2
  · rw [Nat.add_assoc t, Nat.add_assoc t, e (43 + p) (by omega), e (55 + p) (by omega), ← Nat.add_assoc, ← Nat.add_assoc]; exact hpt p hp1
  · refine (htr i hi).shift (by rw [fl_len]; exact (h.kl hi).2.1) (fun k hk => ?_)
    rw [show t + 359 + 31 * i + k = t + (359 + 31 * i + k) by omega, e _ (by omega)]
    congr 1
    omega
  · cases hJ : aJ A with
    | none =>
      rw [hJ] at hj
      exact ⟨by rw [e 5 (by omega)]; exact hj.1, by rw [e 12 (by omega)]; exact hj.2⟩
    | some J =>
      rw [hJ] at hj
      have hkJ : okJ J := by have := h.ka.2.2.2; rw [hJ] at this; exact this
      obtain ⟨⟨c5, c6, c7, c8, c9, c10, c11, c12⟩, s, r, q, w⟩ := hj
      obtain ⟨-, k2, k3, -⟩ := hkJ
      refine ⟨⟨by rw [e 5 (by omega)]; exact c5, by rw [e 6 (by omega)]; exact c6, by rw [e 7 (by omega)]; exact c7, by rw [e 8 (by omega)]; exact c8, by rw [e 9 (by omega)]; exact c9, by rw [e 10 (by omega)]; exact c10, by rw [e 11 (by omega)]; exact c11, by rw [e 12 (by omega)]; exact c12⟩, fun k hk => ?_, fun k hk => ?_, fun ha => ?_, fun p hp1 => ?_⟩
      · rw [Nat.add_assoc, e (79 + k) (by omega), ← Nat.add_assoc]; exact s k hk
      · have := r k hk
        rw [show a + 119 + 2 * k = a + (119 + 2 * k) by omega, show a + (119 + 2 * k) + 1 = a + (119 + 2 * k + 1) by omega] at this
        rw [show t + 119 + 2 * k = t + (119 + 2 * k) by omega, show t + (119 + 2 * k) + 1 = t + (119 + 2 * k + 1) by omega, e (119 + 2 * k) (by omega), e (119 + 2 * k + 1) (by omega)]
        exact this
      · refine (q ha).shift (by rw [fl_len]; exact (h.st hJ ha).2.1) (fun k hk => ?_)
        rw [Nat.add_assoc, e (483 + k) (by omega), ← Nat.add_assoc]
      · have := w p hp1
        rw [Nat.add_assoc, e (67 + p) (by omega), ← Nat.add_assoc]
        exact this
def fixM (Z G : GG) : Prop := (∀ n, n ≠ 618 → ¬ (628 ≤ n ∧ n ≤ 633) → G.1 n = Z.1 n) ∧ G.2 = Z.2 ∧ ∀ k, k = 2 ∨ k = 3 ∨ k = 7 ∨ k = 8 → G.1 618 k = Z.1 618 k
theorem fixM.rf {G : GG} : fixM G G := ⟨fun _ _ _ => rfl, rfl, fun _ _ => rfl⟩
theorem fixM.tr {G1 G2 G3 : GG} (h1 : fixM G1 G2) (h2 : fixM G2 G3) : fixM G1 G3 := ⟨fun n a b => (h2.1 n a b).trans (h1.1 n a b), h2.2.1.trans h1.2.1, fun k hk => (h2.2.2 k hk).trans (h1.2.2 k hk)⟩
theorem mdE.fix {S : Nat → Prop} {G G' : GG} (h : mdE S G G') : fixM G G' := ⟨fun n a b => h.1 n (by omega) a (by omega) (by omega), h.2.1, fun k hk => h.2.2.1 k (by omega) (by omega)⟩
def undoM (G : GG) (P : PP) (U : List AS) : Prop := U.length ≤ 16 ∧ G.1 618 15 = nI U.length ∧ ∀ j (h : j < U.length), MS G (514 * (1 + j)) P U[j] ∧ INV P U[j]
def MW (Z G : GG) (P : PP) (T : TT) (A : AS) (U : List AS) (cu : CU) : Prop := (MS G 0 P A ∧ INV P A) ∧ undoM G P U ∧ (isMT G P T ∧ okTd P T) ∧ (G.1 618 17 = cu.1 ∧ G.1 618 18 = cu.2.1 ∧ G.1 618 19 = cu.2.2) ∧ fixM Z G
section MWS
variable {Z G G' : GG} {P : PP} {T : TT} {A A' B : AS} {U : List AS} {cu : CU}
theorem MS.copy {a t : Nat} (H : MS G a P A) (h : okS P A) (ht : t ≤ 9252) (hP : isMP G' P) (e : ∀ k, k < 514 → G'.1 628 (t + k) = G.1 628 (a + k)) : MS G' t P A := ⟨⟨ht, hP⟩, H.2.shift h e⟩
theorem MS.farE {b c : Nat} (H : MS G c P A) (h : okS P A) (hF : mdE (mB b) G G') (hd : c + 514 ≤ b ∨ b + 514 ≤ c) : MS G' c P A := H.copy h H.hb (H.hP.fre hF) (fun k hk => hF.2.2.2 _ (fun q => by unfold mB at q; omega))
theorem MW.ms (W : MW Z G P T A U cu) : MS G 0 P A := W.1.1
theorem MW.inv (W : MW Z G P T A U cu) : INV P A := W.1.2
theorem MW.fix (W : MW Z G P T A U cu) : fixM Z G := W.2.2.2.2
/-- the state is changed -/
theorem MW.go (W : MW Z G P T A U cu) (hF : mdE (mB 0) G G') (H : MS G' 0 P A') (h : INV P A') : MW Z G' P T A' U cu := by
  obtain ⟨⟨a1, a2⟩, ⟨u1, u2, u3⟩, ⟨t1, t2⟩, c, z⟩ := W
  have e624 := hF.1 624 (by decide) (by decide) (by decide) (by decide)
  refine ⟨⟨H, h⟩, ⟨u1, by rw [hF.2.2.1 15 (by decide) (by decide)]; exact u2, fun j hj => ?_⟩, ⟨t1.off e624, t2⟩, by rw [hF.2.2.1 17 (by decide) (by decide), hF.2.2.1 18 (by decide) (by decide), hF.2.2.1 19 (by decide) (by decide)]; exact c, z.tr hF.fix⟩
  obtain ⟨q1, q2⟩ := u3 j hj
  exact ⟨q1.farE q2.os hF (by omega), q2⟩
/-- a state aside is changed -/
theorem MW.off (W : MW Z G P T A U cu) {b : Nat} (hb : 8738 ≤ b) (hF : mdE (mB b) G G') : MW Z G' P T A U cu := by
  obtain ⟨⟨a1, a2⟩, ⟨u1, u2, u3⟩, ⟨t1, t2⟩, c, z⟩ := W
  have e624 := hF.1 624 (by decide) (by decide) (by decide) (by decide)
  refine ⟨⟨a1.farE a2.os hF (by omega), a2⟩, ⟨u1, by rw [hF.2.2.1 15 (by decide) (by decide)]; exact u2, fun j hj => ?_⟩, ⟨t1.off e624, t2⟩, by rw [hF.2.2.1 17 (by decide) (by decide), hF.2.2.1 18 (by decide) (by decide), hF.2.2.1 19 (by decide) (by decide)]; exact c, z.tr hF.fix⟩
  obtain ⟨q1, q2⟩ := u3 j hj
  exact ⟨q1.farE q2.os hF (by omega), q2⟩
theorem MS.fld {b : Nat} (H : MS G b P A) (h : okS P A) {g : Nat → Int32} (h16 : g 16 = G.1 618 16) : MS (gsa G 618 g) b P A := by
  refine H.copy h H.hb (H.hP.off ?_ ?_ ?_) (fun k hk => ?_)
  · rw [gsa_i, if_neg (by decide)]
  · rw [gsa_i, if_neg (by decide)]
  · rw [gsa_i, if_pos rfl]; exact h16
  · rw [gsa_i, if_neg (by decide)]
/-- numbers of the object itself are changed -/
theorem MW.num (W : MW Z G P T A U cu) {g : Nat → Int32} {U' : List AS} {cu' : CU} (h15 : g 15 = nI U'.length) (h16 : g 16 = G.1 618 16) (hU : ∃ t, U = U' ++ t) (hc : g 17 = cu'.1 ∧ g 18 = cu'.2.1 ∧ g 19 = cu'.2.2) (hz : ∀ k, k = 2 ∨ k = 3 ∨ k = 7 ∨ k = 8 → g k = G.1 618 k) : MW Z (gsa G 618 g) P T A U' cu' := by
  obtain ⟨⟨a1, a2⟩, ⟨u1, u2, u3⟩, ⟨t1, t2⟩, c, z⟩ := W
  obtain ⟨t, rfl⟩ := hU
  refine ⟨⟨a1.fld a2.os h16, a2⟩, ⟨by rw [List.length_append] at u1; omega, by rw [gsa_i, if_pos rfl]; exact h15, fun j hj => ?_⟩, ⟨t1.off (by rw [gsa_i, if_neg (by decide)]), t2⟩, by rw [gsa_i, if_pos rfl]; exact hc, z.tr ⟨fun n n1 n2 => by rw [gsa_i, if_neg n1], rfl, fun k hk => by rw [gsa_i, if_pos rfl]; exact hz k hk⟩⟩
  obtain ⟨q1, q2⟩ := u3 j (by rw [List.length_append]; omega)
  rw [List.getElem_append_left hj] at q1 q2
  exact ⟨q1.fld q2.os h16, q2⟩
theorem MW.th (W : MW Z G P T A U cu) (x : Int32) : MW Z (gsi G 618 0 x) P T A U cu := by
  refine W.num (g := upd (G.1 618) 0 x) (by rw [upd_ne _ _ (by decide)]; exact W.2.1.2.1) (upd_ne _ _ (by decide)) ⟨[], by simp⟩ ?_ (fun k hk => upd_ne _ _ (by omega))
  rw [upd_ne _ _ (by decide), upd_ne _ _ (by decide), upd_ne _ _ (by decide)]
  exact W.2.2.2.1
theorem mdE_cpy {a t : Nat} : mdE (mB t) G (gsa G 628 (cpy (G.1 628) a t 514)) := (mdF.arr (fun k hk => cpy_off (by unfold mB at hk; omega))).e
theorem cpy_at {f : Nat → Int32} {a t n k : Nat} (h : k < n) : cpy f a t n (t + k) = f (a + k) := by
  unfold cpy
  rw [if_pos (by omega), show t + k - t = k by omega]
/-- what is, is laid aside -/
theorem m_aside (W : MW Z G P T A U cu) : ∃ G', f_Md_aside [.ref 618] (hp G) = some (none, hp G') ∧ MW Z G' P T A U cu ∧ MS G' 9252 P A := by
  have hF : mdE (mB 9252) G (gsa G 628 (cpy (G.1 628) 0 9252 514)) := mdE_cpy
  refine ⟨gsa G 628 (cpy (G.1 628) 0 9252 514), ?_, W.off (by decide) hF, ?_⟩
  · rw [e_Md_aside 618 _ (ob_Md G), show (0 : Int32) = nI 0 from rfl, show (9252 : Int32) = nI 9252 from rfl, show (514 : Int32) = nI 514 from rfl, m_copies (by decide) (by decide) (by decide) (by decide), cv_some]
  · refine W.ms.copy W.inv.os (by decide) (W.ms.hP.fre hF) (fun k hk => ?_)
    rw [gsa_i, if_pos rfl]
    exact cpy_at hk
/-- what was laid aside is kept -/
theorem m_keeps (W : MW Z G P T A' U cu) (HB : MS G 9252 P B) (hB : INV P B) : ∃ G', f_Md_keeps [.ref 618] (hp G) = some (none, hp G') ∧ MW Z G' P T A' (pushU U B) cu := by
  obtain ⟨u1, u2, u3⟩ := W.2.1
  have c := W.2.2.2.1
  have seg : ∀ x : Nat, (514 : Int32) * (1 + nI x) = nI (514 * (1 + x)) := fun x => by rw [show (1 : Int32) = nI 1 from rfl, i_add, show (514 : Int32) = nI 514 from rfl, n_mul]
  rw [e_Md_keeps 618 _ (ob_Md G), gg_Md_undos, Option.bind_some, u2]
  by_cases hk : U.length < 16
  · rw [if_neg (show ¬ nI U.length = (16 : Int32) from ln (n := 16) (by omega) (by omega) (by decide)), Option.bind_some, seg, show (9252 : Int32) = nI 9252 from rfl, show (514 : Int32) = nI 514 from rfl, m_copies (by omega) (by omega) (by omega) (by decide), cv_some, gg_Md_undos, Option.bind_some]
    generalize hG1 : gsa G 628 (cpy (G.1 628) 9252 (514 * (1 + U.length)) 514) = G1
    have hF : mdE (mB (514 * (1 + U.length))) G G1 := by rw [← hG1]; exact mdE_cpy
    have h15 : G1.1 618 15 = nI U.length := by rw [hF.2.2.1 15 (by decide) (by decide)]; exact u2
    have hpu : pushU U B = U ++ [B] := if_pos hk
    rw [h15, ww_Md_undos, Option.bind_some, show nI U.length + 1 = nI (U.length + 1) from nI_add _ 1]
    have h16 : upd (G1.1 618) 15 (nI (U.length + 1)) 16 = G1.1 618 16 := upd_ne _ _ (by decide)
    have HB1 : MS G1 (514 * (1 + U.length)) P B := HB.copy hB.os (by omega) (HB.hP.fre hF) (fun k hk => by rw [← hG1, gsa_i, if_pos rfl]; exact cpy_at hk)
    refine ⟨_, rfl, ⟨(W.ms.farE W.inv.os hF (by omega)).fld W.inv.os h16, W.inv⟩, ⟨by rw [hpu, List.length_append]; simp; omega, by rw [gsi_i, if_pos rfl, upd_at, hpu, List.length_append]; rfl, fun j hj => ?_⟩, ⟨W.2.2.1.1.off ?_, W.2.2.1.2⟩, ?_, (W.fix.tr hF.fix).tr ⟨fun n n1 _ => by rw [gsi_i, if_neg n1], rfl, fun k hk => by rw [gsi_i, if_pos rfl, upd_ne _ _ (by omega)]⟩⟩
    · have hj' := hj
      rw [hpu, List.length_append] at hj'
      simp only [List.length_cons, List.length_nil] at hj'
      by_cases e : j = U.length
      · subst e
        rw [show (pushU U B)[U.length] = B by simp [hpu]]
        exact ⟨HB1.fld hB.os h16, hB⟩
      · have e2 : (pushU U B)[j] = U[j]'(by omega) := by simp only [hpu]; exact List.getElem_append_left (by omega)
        obtain ⟨q1, q2⟩ := u3 j (by omega)
        rw [e2]
        exact ⟨(q1.farE q2.os hF (by omega)).fld q2.os h16, q2⟩
    · rw [gsi_i, if_neg (by decide)]; exact hF.1 624 (by decide) (by decide) (by decide) (by decide)
    · rw [gsi_i, if_pos rfl, upd_ne _ _ (by decide), upd_ne _ _ (by decide), upd_ne _ _ (by decide), hF.2.2.1 17 (by decide) (by decide), hF.2.2.1 18 (by decide) (by decide), hF.2.2.1 19 (by decide) (by decide)]
      exact c
  · have h16l : U.length = 16 := by omega
    have hpu : pushU U B = U.tail ++ [B] := if_neg hk
    rw [if_pos (show nI U.length = (16 : Int32) from lq (n := 16) h16l)]
    have key : ∀ (q k f : Nat) (G1 : GG) (_ : k ≤ 16), 1 ≤ k → k + q = 16 → q < f → mdE (fun n => 514 ≤ n ∧ n < 8738) G G1 → (∀ j (h : j < 16), MS G1 (514 * (1 + j)) P (U[if j + 1 < k then j + 1 else j]'(by split <;> omega))) → ∃ G2, mm_run p_Md_keeps f 11 [.ref 618, .int (nI k)] [] (hp G1) = mm_run p_Md_keeps (f - q) 11 [.ref 618, .int (nI 16)] [] (hp G2) ∧ mdE (fun n => 514 ≤ n ∧ n < 8738) G G2 ∧ (∀ j (h : j < 15), MS G2 (514 * (1 + j)) P (U[j + 1]'(by omega))) := by
      intro q
      induction q with
      | zero =>
        intro k f G1 hk16' h1 hq hf hF hs
        have hk16 : k = 16 := by omega
        subst hk16
        exact ⟨G1, rfl, hF, fun j hj => by have := hs j (by omega); simp only [show j + 1 < 16 by omega, if_true] at this; exact this⟩
      | succ q ih =>
        intro k f G1 hk16' h1 hq hf hF hs
        obtain ⟨f, rfl⟩ : ∃ g, f = g + 1 := ⟨f - 1, by omega⟩
        rw [e_Md_keeps_11, if_pos (show nI k < (16 : Int32) from lp (n := 16) (by omega) (by decide)), seg, show ((1 : Int32) + nI k) - 1 = nI k from by rw [show (1 : Int32) = nI 1 from rfl, i_add, n_sub (by omega)]; congr 1; omega, show (514 : Int32) * nI k = nI (514 * k) from n_mul 514 k, show (514 : Int32) = nI 514 from rfl, m_copies (by omega) (by omega) (by omega) (by decide), cv_some, show nI k + 1 = nI (k + 1) from nI_add _ 1]
        have hF1 : mdE (mB (514 * k)) G1 (gsa G1 628 (cpy (G1.1 628) (514 * (1 + k)) (514 * k) 514)) := mdE_cpy
        have hF2 := hF.tr (⟨hF1.1, hF1.2.1, hF1.2.2.1, fun n hn => hF1.2.2.2 n (fun q => hn (by unfold mB at q; omega))⟩ : mdE (fun n => 514 ≤ n ∧ n < 8738) G1 _)
        obtain ⟨G2, r1, r2, r3⟩ := ih (k + 1) f (gsa G1 628 (cpy (G1.1 628) (514 * (1 + k)) (514 * k) 514)) (by omega) (by omega) (by omega) (by omega) hF2 (fun j hj => by
          have hsj := hs j hj
          by_cases e : j = k - 1
          · subst e
            have hsk := hs k (by omega)
            simp only [show ¬ k + 1 < k by omega, if_false] at hsk
            simp only [show k - 1 + 1 < k + 1 by omega, if_true, show k - 1 + 1 = k by omega]
            rw [show 1 + (k - 1) = k by omega]
            simp only [show k < k + 1 by omega, if_true]
            exact hsk.copy (t := 514 * k) (u3 k (by omega)).2.os (by omega) (hsk.hP.fre hF1) (fun n hn => by rw [gsa_i, if_pos rfl]; exact cpy_at hn)
          · have : (if j + 1 < k + 1 then j + 1 else j) = if j + 1 < k then j + 1 else j := by
              by_cases e2 : j + 1 < k
              · rw [if_pos e2, if_pos (by omega)]
              · rw [if_neg e2, if_neg (by omega)]
            simp only [this]
            exact hsj.farE (u3 _ (by split <;> omega)).2.os hF1 (by omega))
        refine ⟨G2, ?_, r2, r3⟩
        rw [r1, show f + 1 - (q + 1) = f - q by omega]
    obtain ⟨G2, r1, r2, r3⟩ := key 15 1 mm_fu G (by omega) (by omega) rfl (fu_lt (by omega)) mdE.rf (fun j hj => by simp only [show ¬ j + 1 < 1 by omega, if_false]; exact (u3 j (by omega)).1)
    obtain ⟨f, hf⟩ : ∃ g, mm_fu - 15 = g + 1 := ⟨mm_fu - 16, by have := @fu_lt 100 (by omega); omega⟩
    have h15 : G2.1 618 15 = nI 16 := by rw [r2.2.2.1 15 (by decide) (by decide), u2, h16l]
    have r1' : mm_run p_Md_keeps mm_fu 11 [.ref 618, .int 1] [] (hp G) = _ := r1
    rw [r1', hf, e_Md_keeps_11, if_neg (show ¬ nI 16 < (16 : Int32) by decide), gg_Md_undos, Option.bind_some, h15, show nI 16 - 1 = nI 15 from rfl, ww_Md_undos, Option.bind_some, gg_Md_undos, Option.bind_some, show (gsi G2 618 15 (nI 15)).1 618 15 = nI 15 by rw [gsi_i, if_pos rfl, upd_at], seg, show (9252 : Int32) = nI 9252 from rfl, show (514 : Int32) = nI 514 from rfl, m_copies (by omega) (by omega) (by omega) (by decide), cv_some, gg_Md_undos, Option.bind_some]
    generalize hG3 : gsi G2 618 15 (nI 15) = G3
    generalize hG4 : gsa G3 628 (cpy (G3.1 628) 9252 (514 * (1 + 15)) 514) = G4
    have h16 : ∀ k, k ≠ 15 → G3.1 618 k = G2.1 618 k := fun k hk => by rw [← hG3, gsi_i, if_pos rfl, upd_ne _ _ hk]
    have hF : mdE (mB (514 * (1 + 15))) G3 G4 := by rw [← hG4]; exact mdE_cpy
    have h15' : G4.1 618 15 = nI 15 := by rw [hF.2.2.1 15 (by decide) (by decide), ← hG3, gsi_i, if_pos rfl, upd_at]
    rw [h15', show nI 15 + 1 = nI 16 from rfl, ww_Md_undos, Option.bind_some]
    have hm3 : ∀ {b : Nat} {C : AS}, MS G2 b P C → okS P C → MS G3 b P C := fun q1 q2 => by rw [← hG3]; exact q1.fld q2 (upd_ne _ _ (by decide))
    have hm5 : ∀ {b : Nat} {C : AS}, MS G4 b P C → okS P C → MS (gsi G4 618 15 (nI 16)) b P C := fun q1 q2 => q1.fld q2 (upd_ne _ _ (by decide))
    have H0 : MS G2 0 P A' := W.ms.copy W.inv.os (by decide) (W.ms.hP.fre r2) (fun k hk => r2.2.2.2 _ (by omega))
    have H9 : MS G2 9252 P B := HB.copy hB.os (by decide) (HB.hP.fre r2) (fun k hk => r2.2.2.2 _ (by omega))
    have H93 := hm3 H9 hB.os
    have HB1 : MS G4 (514 * (1 + 15)) P B := H93.copy hB.os (by omega) (H93.hP.fre hF) (fun k hk => by rw [← hG4, gsa_i, if_pos rfl]; exact cpy_at hk)
    have hfx : fixM G (gsi G4 618 15 (nI 16)) := by
      refine r2.fix.tr (fixM.tr (G2 := G3) ?_ (fixM.tr hF.fix ?_))
      · rw [← hG3]
        exact ⟨fun n n1 _ => by rw [gsi_i, if_neg n1], rfl, fun k hk => by rw [gsi_i, if_pos rfl, upd_ne _ _ (by omega)]⟩
      · exact ⟨fun n n1 _ => by rw [gsi_i, if_neg n1], rfl, fun k hk => by rw [gsi_i, if_pos rfl, upd_ne _ _ (by omega)]⟩
    have hlen : (pushU U B).length = 16 := by rw [hpu, List.length_append, List.length_tail, h16l]; rfl
    refine ⟨_, rfl, ⟨hm5 ((hm3 H0 W.inv.os).farE W.inv.os hF (by omega)) W.inv.os, W.inv⟩, ⟨by omega, by rw [gsi_i, if_pos rfl, upd_at, hlen], fun j hj => ?_⟩, ⟨W.2.2.1.1.off (hfx.1 624 (by decide) (by decide)), W.2.2.1.2⟩, ?_, W.fix.tr hfx⟩
    · by_cases e : j = 15
      · subst e
        have : (pushU U B)[15] = B := by
          simp only [hpu]
          rw [List.getElem_append_right (by rw [List.length_tail]; omega)]
          simp
        rw [this]
        exact ⟨hm5 HB1 hB.os, hB⟩
      · have e2 : (pushU U B)[j] = U[j + 1]'(by omega) := by
          simp only [hpu]
          rw [List.getElem_append_left (by rw [List.length_tail]; omega), List.getElem_tail]
        have q2 := (u3 (j + 1) (by omega)).2
        rw [e2]
        exact ⟨hm5 ((hm3 (r3 j (by omega)) q2.os).farE q2.os hF (by omega)) q2.os, q2⟩
    · rw [gsi_i, if_pos rfl, upd_ne _ _ (by decide), upd_ne _ _ (by decide), upd_ne _ _ (by decide), hF.2.2.1 17 (by decide) (by decide), hF.2.2.1 18 (by decide) (by decide), hF.2.2.1 19 (by decide) (by decide), h16 17 (by decide), h16 18 (by decide), h16 19 (by decide), r2.2.2.1 17 (by decide) (by decide), r2.2.2.1 18 (by decide) (by decide), r2.2.2.1 19 (by decide) (by decide)]
      exact c
end MWS
