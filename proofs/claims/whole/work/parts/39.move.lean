/-! STATE (the class): entries that go and come -/
def isE (G : GG) (a : Nat) (E : Nat → Int32) : Prop := ∀ i, i < 4 → G.1 a i = E i
/-- the state's cells but for what was and what will be -/
def stR (s n : Nat) : Prop := (s ≤ n ∧ n < s + 28) ∧ n ≠ s + 14 ∧ n ≠ s + 15
def entsA (P : PP) (A : AS) (r : Nat) (b : Bool) : Nat → Int32 := fun i => if i < pNi P ∧ (b = true ∨ pKd P i ≠ 3) then nI (valA P A i r) else -1
def moreE (E F : Nat → Int32) (i : Nat) : Nat := if E i = F i then 0 else (if E i = -1 then 0 else 1) + (if F i = -1 then 0 else 1)
def fitA (P : PP) (A : AS) (E F : Nat → Int32) : Bool := match aJ A with
  | none => true
  | some J => !decide (jAt J < pNi P) || decide ((jSd J).length + moreE E F (jAt J) ≤ 40)
def isAtA (A : AS) (i : Nat) : Bool := atO (aJ A) i
def layA (A : AS) (x : Int32) : AS := match aJ A with
  | none => A
  | some J => setX (setJ A (some (jLay J x))) (aX A + 1)
def costA (P : PP) (A : AS) (i : Nat) : Int32 := nI (hg (pPg P) (aL A i).length) + 2
def takeA (P : PP) (A : AS) (i r v : Nat) : AS := if isAtA A i then layA A (((1000 * nI r) + nI v) - 40000) else setL (setX A (aX A + costA P A i)) i (takL (codD (dnP P i) v r) (aL A i))
def putA (P : PP) (A : AS) (i r v : Nat) : AS := if isAtA A i then layA A ((1000 * nI r) + nI v) else setL (setX A (aX A + costA P A i)) i (putL (pPg P) (codD (dnP P i) v r) (aL A i))
def takeE (P : PP) (A : AS) (i r : Nat) (x : Int32) : AS := if x = -1 then A else takeA P A i r x.toNatClampNeg
def putE (P : PP) (A : AS) (i r : Nat) (x : Int32) : AS := if x = -1 then A else putA P A i r x.toNatClampNeg
def moveE (P : PP) (E F : Nat → Int32) (r : Nat) (A : AS) (i : Nat) : AS := if E i = F i then A else putE P (takeE P A i r (E i)) i r (F i)
def moveA (P : PP) (A : AS) (E F : Nat → Int32) (r : Nat) : AS := (List.range (pNi P)).foldl (moveE P E F r) A
/-- distinct numbers below n, one of which is not there -/
theorem nodup_lt : ∀ (n : Nat) (l : List Nat), l.Nodup → (∀ x ∈ l, x < n) → l.length ≤ n
  | 0, l, _, h => by
    cases l with
    | nil => exact Nat.le_refl _
    | cons x l => exact absurd (h x (by simp)) (by omega)
  | n + 1, l, hd, h => by
    have h1 := nodup_lt n (l.erase n) (hd.erase n) (fun x hx => by
      have h2 := (hd.mem_erase_iff).mp hx
      have := h x h2.2
      omega)
    by_cases hm : n ∈ l
    · rw [List.length_erase_of_mem hm] at h1
      omega
    · rw [List.erase_of_not_mem hm] at h1
      omega
theorem rows_lt {page r : Nat} {L : LL} (hk : okL page L) (hr : r < 30) (hno : r ∉ L.flatten.map (· % 32)) : L.flatten.length < 30 := by
  have h1 : (r :: L.flatten.map (· % 32)).length ≤ 30 := nodup_lt 30 _ (List.nodup_cons.mpr ⟨hno, hk.2.2.2.2.2⟩) (fun x hx => by
    rcases List.mem_cons.mp hx with rfl | hx
    · exact hr
    · obtain ⟨c, hc, rfl⟩ := List.mem_map.mp hx
      exact (hk.2.2.2.1 c hc).2)
  rw [List.length_cons, List.length_map] at h1
  omega
section MOV
variable {G : GG} {s p : Nat} {P : PP} {A : AS}
theorem s_St_noEntries {a : Nat} (ho : okSt s) (hsh : sh a = some (.inl (0, 4))) : ∃ G', f_St_noEntries [.ref s, .ref a] (hp G) = some (none, hp G') ∧ isE G' a (fun _ => -1) ∧ eqOff (inR a (a + 1)) G G' := by
  rw [e_St_noEntries s _ _ (ob_St G ho)]
  have key : ∀ (j i f : Nat) (G1 : GG), i + j = 4 → j < f → (∀ k, k < i → G1.1 a k = -1) → eqOff (inR a (a + 1)) G G1 → ∃ G', mm_run p_St_noEntries f 2 [.ref a, .int (nI i)] [] (hp G1) = some (none, hp G') ∧ isE G' a (fun _ => -1) ∧ eqOff (inR a (a + 1)) G G' := by
    intro j
    induction j with
    | zero =>
      intro i f G1 hj hf h1 h2
      obtain ⟨f, rfl⟩ : ∃ g, f = g + 1 := ⟨f - 1, by omega⟩
      have : i = 4 := by omega
      subst this
      rw [e_St_noEntries_2, if_neg (show ¬ nI 4 < (4 : Int32) by decide)]
      exact ⟨G1, rfl, h1, h2⟩
    | succ j ih =>
      intro i f G1 hj hf h1 h2
      obtain ⟨f, rfl⟩ : ∃ g, f = g + 1 := ⟨f - 1, by omega⟩
      rw [e_St_noEntries_2, if_pos (show nI i < (4 : Int32) from lp (n := 4) (by omega) (by omega)), hp_si hsh (by omega) (by omega), Option.bind_some, show nI i + 1 = nI (i + 1) from nI_add i 1]
      refine ih (i + 1) f _ (by omega) (by omega) (fun k hk => ?_) (h2.tr (eqOff.gsi _ _ ⟨by omega, by omega⟩))
      rw [gsi_i, if_pos rfl, upd_if]
      by_cases e : k = i
      · rw [if_pos e]
      · rw [if_neg e]; exact h1 k (by omega)
  exact key 4 0 mm_fu G (by omega) (fu_lt (by omega)) (fun k hk => by omega) eqOff.rf
theorem s_St_entriesOf {a : Nat} (H : SS G s p P A) (ha : a = s + 14 ∨ a = s + 15) {r : Nat} (hr : r < aM A) (b : Bool) : ∃ G', f_St_entriesOf [.ref s, .int (nI r), .int (b2 b), .ref a] (hp G) = some (none, hp G') ∧ SS G' s p P A ∧ isE G' a (entsA P A r b) ∧ eqOff (inR a (a + 1)) G G' := by
  have hsh : sh a = some (.inl (0, 4)) := by
    rcases ha with rfl | rfl
    · exact H.os.2.1
    · exact H.os.2.2.1
  have hn := H.ni
  have keep : ∀ {G' : GG}, eqOff (inR a (a + 1)) G G' → SS G' s p P A := fun hq => H.was (hq.mono (fun n h => by unfold inR at h ⊢; omega))
  obtain ⟨G0, n1, n2, n3⟩ := s_St_noEntries (G := G) (s := s) H.os hsh
  rw [e_St_entriesOf s _ _ _ _ (ob_St G H.os), n1, cv_some]
  have key : ∀ (j i f : Nat) (G1 : GG), i + j = pNi P → j < f → isE G1 a (fun k => if k < i then entsA P A r b k else -1) → eqOff (inR a (a + 1)) G G1 → ∃ G', mm_run p_St_entriesOf f 8 [.ref s, .int (nI r), .int (b2 b), .ref a, .int (nI i)] [] (hp G1) = some (none, hp G') ∧ SS G' s p P A ∧ isE G' a (entsA P A r b) ∧ eqOff (inR a (a + 1)) G G' := by
    intro j
    induction j with
    | zero =>
      intro i f G1 hj hf h1 h2
      obtain ⟨f, rfl⟩ : ∃ g, f = g + 1 := ⟨f - 1, by omega⟩
      have H1 := keep h2
      rw [e_St_entriesOf_8, H1.gp, Option.bind_some, H1.gn, Option.bind_some, if_neg (lm (by omega) (by omega))]
      refine ⟨G1, rfl, H1, fun k hk => ?_, h2⟩
      rw [h1 k hk]
      show (if k < i then entsA P A r b k else -1) = _
      by_cases e : k < i
      · rw [if_pos e]
      · rw [if_neg e]
        unfold entsA
        rw [if_neg (by omega)]
    | succ j ih =>
      intro i f G1 hj hf h1 h2
      obtain ⟨f, rfl⟩ : ∃ g, f = g + 1 := ⟨f - 1, by omega⟩
      have H1 := keep h2
      have hi : i < pNi P := by omega
      have hk := H1.kd hi
      have hset : (b = true ∨ pKd P i ≠ 3) → ∃ G', mm_run p_St_entriesOf f 8 [.ref s, .int (nI r), .int (b2 b), .ref a, .int (nI (i + 1))] [] (hp (gsi G1 a i (nI (aV A r (pCo P i))))) = some (none, hp G') ∧ SS G' s p P A ∧ isE G' a (entsA P A r b) ∧ eqOff (inR a (a + 1)) G G' := fun hb => by
        refine ih (i + 1) f _ (by omega) (by omega) (fun k hk4 => ?_) (h2.tr (eqOff.gsi _ _ ⟨by omega, by omega⟩))
        show (gsi G1 a i (nI (aV A r (pCo P i)))).1 a k = (if k < i + 1 then entsA P A r b k else -1)
        rw [gsi_i, if_pos rfl, upd_if]
        by_cases e : k = i
        · subst e
          rw [if_pos rfl, if_pos (by omega)]
          unfold entsA valA
          rw [if_pos ⟨hi, hb⟩]
        · rw [if_neg e, h1 k hk4]
          show (if k < i then entsA P A r b k else -1) = _
          by_cases e2 : k < i
          · rw [if_pos e2, if_pos (by omega)]
          · rw [if_neg e2, if_neg (by omega)]
      rw [e_St_entriesOf_8, H1.gp, Option.bind_some, H1.gn, Option.bind_some, if_pos (lp hi (by omega)), show nI i + 1 = nI (i + 1) from nI_add i 1]
      cases b with
      | false =>
        rw [if_pos (by decide), Option.bind_some, gg_Pl_kind _ H1.op, Option.bind_some, H1.gk hi, Option.bind_some]
        by_cases h3 : pKd P i = 3
        · rw [if_pos (show nI (pKd P i) = (3 : Int32) from lq (n := 3) h3)]
          refine ih (i + 1) f G1 (by omega) (by omega) (fun k hk4 => ?_) h2
          rw [h1 k hk4]
          show (if k < i then entsA P A r false k else -1) = (if k < i + 1 then entsA P A r false k else -1)
          by_cases e : k = i
          · subst e
            rw [if_neg (by omega), if_pos (by omega)]
            unfold entsA
            rw [if_neg (by simp [h3])]
          · by_cases e2 : k < i
            · rw [if_pos e2, if_pos (by omega)]
            · rw [if_neg e2, if_neg (by omega)]
        · rw [if_neg (show ¬ nI (pKd P i) = (3 : Int32) from ln (n := 3) h3 (by omega) (by omega)), gg_St_rows _ H1.os, Option.bind_some, Option.bind_some, gg_Pl_column _ H1.op, Option.bind_some, H1.gc hi, Option.bind_some, s_Rw_valueOf H1.1.1.rw H1.rw H1.kr hr (H1.co hi), ci_some, hp_si hsh (by omega) (by omega), Option.bind_some]
          exact hset (Or.inr h3)
      | true =>
        rw [if_neg (by decide), gg_St_rows _ H1.os, Option.bind_some, Option.bind_some, gg_Pl_column _ H1.op, Option.bind_some, H1.gc hi, Option.bind_some, s_Rw_valueOf H1.1.1.rw H1.rw H1.kr hr (H1.co hi), ci_some, hp_si hsh (by omega) (by omega), Option.bind_some]
        exact hset (Or.inl rfl)
  exact key (pNi P) 0 mm_fu G0 (by omega) (fu_lt (by omega)) (fun k hk => by rw [n2 k hk]; rfl) n3
theorem s_St_fitAside (H : SS G s p P A) {E F : Nat → Int32} (hE : isE G (s + 14) E) (hF : isE G (s + 15) F) : f_St_fitAside [.ref s] (hp G) = some (some (.int (b2 (fitA P A E F))), hp G) := by
  have hj := H.jb
  have hk := H.kj
  have hn := H.ni
  have hoj := H.1.1.jb
  rw [e_St_fitAside s _ (ob_St G H.os), gg_St_job _ H.os, Option.bind_some, gg_Jb_on _ hoj, Option.bind_some]
  unfold fitA
  cases h : aJ A with
  | none =>
    rw [h] at hj
    rw [hj.1, if_pos rfl]
    rfl
  | some J =>
    rw [h] at hj hk
    have h4 : jAt J ≤ 4 := hk.1
    have h40 : (jSd J).length ≤ 40 := hk.2.2.1
    rw [hj.1.1, if_neg (by decide), Option.bind_some, gg_Jb_at _ hoj, Option.bind_some, H.gp, Option.bind_some, H.gn, Option.bind_some, hj.1.2.2.1]
    by_cases h5 : jAt J < pNi P
    · have hA4 : jAt J < 4 := by omega
      have c0 : ∀ {m : Nat}, m ≤ 2 → (if (40 : Int32) < nI ((jSd J).length + m) then some (some (Value.int 0), hp G) else some (some (Value.int 1), hp G)) = some (some (.int (b2 (!decide (jAt J < pNi P) || decide ((jSd J).length + m ≤ 40)))), hp G) := fun {m} hm => by
        rw [decide_eq_true h5]
        by_cases e : 40 < (jSd J).length + m
        · rw [if_pos (show (40 : Int32) < nI ((jSd J).length + m) from lp (a := 40) e (by omega)), decide_eq_false (by omega)]; rfl
        · rw [if_neg (show ¬ (40 : Int32) < nI ((jSd J).length + m) from fun q => e (by rw [show (40 : Int32) = nI 40 from rfl, n_lt (by omega) (by omega)] at q; exact q)), decide_eq_true (by omega)]; rfl
      rw [if_pos (lp h5 (by omega)), gg_St_was _ H.os, Option.bind_some, Option.bind_some, gg_Jb_at _ hoj, Option.bind_some, hj.1.2.2.1, rr_St_was _ H.os hA4, Option.bind_some, hE _ hA4, gg_St_willBe _ H.os, Option.bind_some, Option.bind_some, gg_Jb_at _ hoj, Option.bind_some, hj.1.2.2.1, rr_St_willBe _ H.os hA4, Option.bind_some, hF _ hA4]
      show _ = some (some (Value.int (b2 (!decide (jAt J < pNi P) || decide ((jSd J).length + moreE E F (jAt J) ≤ 40)))), hp G)
      unfold moreE
      by_cases e1 : E (jAt J) = F (jAt J)
      · rw [if_pos e1, if_pos e1, Option.bind_some, gg_Jb_sides _ hoj, Option.bind_some, hj.1.2.2.2.2.2.2.2]
        rw [show nI (jSd J).length + 0 = nI ((jSd J).length + 0) from nI_add _ 0]
        exact c0 (m := 0) (by omega)
      · rw [if_neg e1, if_neg e1, Option.bind_some, Option.bind_some, gg_Jb_at _ hoj, Option.bind_some, hj.1.2.2.1, rr_St_was _ H.os hA4, Option.bind_some, hE _ hA4]
        by_cases e2 : E (jAt J) = -1
        · rw [if_pos e2, if_pos e2, Option.bind_some, Option.bind_some, gg_Jb_at _ hoj, Option.bind_some, hj.1.2.2.1, rr_St_willBe _ H.os hA4, Option.bind_some, hF _ hA4]
          by_cases e3 : F (jAt J) = -1
          · rw [if_pos e3, if_pos e3, Option.bind_some, gg_Jb_sides _ hoj, Option.bind_some, hj.1.2.2.2.2.2.2.2]
            rw [show nI (jSd J).length + (0 + 0 + 0) = nI ((jSd J).length + 0) from nI_add _ 0]
            exact c0 (m := 0) (by omega)
          · rw [if_neg e3, if_neg e3, Option.bind_some, gg_Jb_sides _ hoj, Option.bind_some, hj.1.2.2.2.2.2.2.2]
            rw [show nI (jSd J).length + (0 + 0 + 1) = nI ((jSd J).length + 1) from nI_add _ 1]
            exact c0 (m := 1) (by omega)
        · rw [if_neg e2, if_neg e2, Option.bind_some, Option.bind_some, gg_Jb_at _ hoj, Option.bind_some, hj.1.2.2.1, rr_St_willBe _ H.os hA4, Option.bind_some, hF _ hA4]
          by_cases e3 : F (jAt J) = -1
          · rw [if_pos e3, if_pos e3, Option.bind_some, gg_Jb_sides _ hoj, Option.bind_some, hj.1.2.2.2.2.2.2.2]
            rw [show nI (jSd J).length + (0 + 1 + 0) = nI ((jSd J).length + 1) from nI_add _ 1]
            exact c0 (m := 1) (by omega)
          · rw [if_neg e3, if_neg e3, Option.bind_some, gg_Jb_sides _ hoj, Option.bind_some, hj.1.2.2.2.2.2.2.2]
            rw [show nI (jSd J).length + (0 + 1 + 1) = nI ((jSd J).length + 2) from nI_add _ 2]
            exact c0 (m := 2) (by omega)
    · rw [if_neg (lm (by omega) (by omega))]
      simp [h5, b2]
theorem s_St_lay (H : SS G s p P A) {J : JB} (hj : aJ A = some J) (hl : (jSd J).length < 40) (x : Int32) : ∃ G', mm_cv (f_Jb_lay [.ref (s + 8), .int x] (hp G)) (fun h18 => (mm_gi 8 8 h18 s).bind fun x19 => (mm_pf 8 8 (.int (x19 + 1)) h18 s).bind fun h20 => (some (none, h20) : Option (Option Value × mm_H))) = some (none, hp G') ∧ SS G' s p P (layA A x) ∧ eqOff (stR s) G G' := by
  have hjb := H.jb
  have hk := H.kj
  rw [hj] at hjb hk
  obtain ⟨G1, q1, q2, q3⟩ := s_Jb_lay H.1.1.jb hjb hl x
  rw [q1, cv_some]
  have hk' : okJo (some (jLay J x)) := by
    obtain ⟨k1, k2, k3, k4⟩ := hk
    refine ⟨k1, k2, ?_, k4⟩
    show (jSd J ++ [x]).length ≤ 40
    simp
    omega
  have H1 : SS G1 s p P (setJ A (some (jLay J x))) := H.job q3 q2 hk' (fun J' e _ => ⟨J, hj, by rw [← Option.some.inj e]; exact ⟨rfl, rfl⟩⟩)
  have e8 : G1.1 s 8 = aX A := H1.2.2.1.2.2.2.2.2.1
  rw [gg_St_spent _ H.os, Option.bind_some, e8, ww_St_spent _ H.os, Option.bind_some]
  refine ⟨_, rfl, ?_, ?_⟩
  · unfold layA
    rw [hj]
    exact H1.spent _
  · exact (q3.mono (fun n h => by unfold inR at h; unfold stR; omega)).tr (eqOff.gsi _ _ ⟨⟨by omega, by omega⟩, by omega, by omega⟩)
theorem codD_lt {dn : Bool} {v r : Nat} (hv : v ≤ 999) (hr : r < 30) : codD dn v r < 32000 ∧ codD dn v r % 32 = r := by
  unfold codD
  split <;> omega
theorem s_St_takeEntry (H : SS G s p P A) {i r v : Nat} (hi : i < pNi P) (hr : r < 30) (hv : v ≤ 999) (hroom : ∀ J, aJ A = some J → jAt J = i → (jSd J).length < 40) : ∃ G', f_St_takeEntry [.ref s, .int (nI i), .int (nI r), .int (nI v)] (hp G) = some (none, hp G') ∧ SS G' s p P (takeA P A i r v) ∧ eqOff (stR s) G G' := by
  have hn := H.ni
  have hat : f_Jb_isAt [.ref (s + 8), .int (nI i)] (hp G) = some (some (.int (b2 (isAtA A i))), hp G) := s_Jb_isAt (i := i) H.1.1.jb H.jb H.kj (by omega)
  rw [e_St_takeEntry s _ _ _ _ (ob_St G H.os), if_neg (n_m1 (by omega)), gg_St_job _ H.os, Option.bind_some, hat, ci_some]
  unfold takeA
  cases h : isAtA A i
  · rw [if_pos (by decide), if_neg (by decide)]
    have e8 : G.1 s 8 = aX A := H.2.2.1.2.2.2.2.2.1
    rw [gg_St_spent _ H.os, Option.bind_some, e8, gg_St_trees _ H.os, Option.bind_some, H.gt hi, Option.bind_some, s_Lv_height (H.ol hi) (H.tr hi) H.2.1.2.1 (H.kl hi).len, ci_some, ww_St_spent _ H.os, Option.bind_some, show nI (hg (pPg P) (aL A i).length) + 2 = costA P A i from rfl]
    have H1 := H.spent (aX A + costA P A i)
    rw [gg_St_trees _ H.os, Option.bind_some, H1.gt hi, Option.bind_some, Option.bind_some, H1.gt hi, Option.bind_some]
    have hc := codD_lt (dn := dnP P i) hv hr
    have e1 := s_Lv_code (H1.ol hi) (H1.tr hi) (r := r) hv
    obtain ⟨G2, t1, t2, t3⟩ := s_Lv_take (H1.ol hi) (H1.tr hi) (H1.kl hi) (c := codD (dnP P i) v r) (by omega)
    have e2 : mm_ci (f_Lv_code [.ref (s + 16 + 3 * i), .int (nI v), .int (nI r)] (hp (gsi G s 8 (aX A + costA P A i)))) (fun x15 h14 => mm_cv (f_Lv_take [.ref (s + 16 + 3 * i), .int x15] h14) fun h16 => (some (none, h16) : Option (Option Value × mm_H))) = some (none, hp G2) := by
      rw [e1, ci_some]
      rw [show f_Lv_take [.ref (s + 16 + 3 * i), .int (nI ((if dnP P i = true then 999 - v else v) * 32 + r))] (hp (gsi G s 8 (aX A + costA P A i))) = _ from t1, cv_some]
    refine ⟨G2, e2, H1.tree hi t3 t2 (tak_ok (H1.kl hi)), ?_⟩
    exact (eqOff.gsi (S := stR s) _ _ ⟨⟨by omega, by omega⟩, by omega, by omega⟩).tr (t3.mono (fun n h => by unfold inR at h; unfold stR; omega))
  · rw [if_neg (by decide), if_pos rfl, gg_St_job _ H.os, Option.bind_some]
    have hJ : ∃ J, aJ A = some J ∧ jAt J = i := by
      unfold isAtA at h
      cases hj : aJ A with
      | none => rw [hj] at h; exact absurd h (by simp [atO])
      | some J => rw [hj] at h; exact ⟨J, rfl, by simpa [atO] using h⟩
    obtain ⟨J, hj, hja⟩ := hJ
    exact s_St_lay H hj (hroom J hj hja) _
theorem s_St_putEntry (H : SS G s p P A) {i r v : Nat} (hi : i < pNi P) (hr : r < 30) (hv : v ≤ 999) (hroom : ∀ J, aJ A = some J → jAt J = i → (jSd J).length < 40) (hno : isAtA A i = false → r ∉ (aL A i).flatten.map (· % 32)) : ∃ G', f_St_putEntry [.ref s, .int (nI i), .int (nI r), .int (nI v)] (hp G) = some (none, hp G') ∧ SS G' s p P (putA P A i r v) ∧ eqOff (stR s) G G' := by
  have hn := H.ni
  have hat : f_Jb_isAt [.ref (s + 8), .int (nI i)] (hp G) = some (some (.int (b2 (isAtA A i))), hp G) := s_Jb_isAt (i := i) H.1.1.jb H.jb H.kj (by omega)
  rw [e_St_putEntry s _ _ _ _ (ob_St G H.os), if_neg (n_m1 (by omega)), gg_St_job _ H.os, Option.bind_some, hat, ci_some]
  unfold putA
  cases h : isAtA A i
  · rw [if_pos (by decide), if_neg (by decide)]
    have e8 : G.1 s 8 = aX A := H.2.2.1.2.2.2.2.2.1
    rw [gg_St_spent _ H.os, Option.bind_some, e8, gg_St_trees _ H.os, Option.bind_some, H.gt hi, Option.bind_some, s_Lv_height (H.ol hi) (H.tr hi) H.2.1.2.1 (H.kl hi).len, ci_some, ww_St_spent _ H.os, Option.bind_some, show nI (hg (pPg P) (aL A i).length) + 2 = costA P A i from rfl]
    have H1 := H.spent (aX A + costA P A i)
    rw [gg_St_trees _ H.os, Option.bind_some, H1.gt hi, Option.bind_some, Option.bind_some, H1.gt hi, Option.bind_some]
    have hc := codD_lt (dn := dnP P i) hv hr
    have hno' := hno h
    have hkl := H.kl hi
    have hlen : (aL A i).flatten.length < 30 := rows_lt hkl hr hno'
    have e1 := s_Lv_code (H1.ol hi) (H1.tr hi) (r := r) hv
    obtain ⟨G2, t1, t2, t3⟩ := s_Lv_put (H1.ol hi) (H1.tr hi) (H1.kl hi) hlen (c := codD (dnP P i) v r) hc.1 (fun q => hno' (List.mem_map.mpr ⟨_, q, hc.2⟩))
    have e2 : mm_ci (f_Lv_code [.ref (s + 16 + 3 * i), .int (nI v), .int (nI r)] (hp (gsi G s 8 (aX A + costA P A i)))) (fun x15 h14 => mm_cv (f_Lv_put [.ref (s + 16 + 3 * i), .int x15] h14) fun h16 => (some (none, h16) : Option (Option Value × mm_H))) = some (none, hp G2) := by
      rw [e1, ci_some]
      rw [show f_Lv_put [.ref (s + 16 + 3 * i), .int (nI ((if dnP P i = true then 999 - v else v) * 32 + r))] (hp (gsi G s 8 (aX A + costA P A i))) = _ from t1, cv_some]
    refine ⟨G2, e2, H1.tree hi t3 t2 (put_ok hkl hlen hc.1 (by omega) (by rw [hc.2]; exact hno')), ?_⟩
    exact (eqOff.gsi (S := stR s) _ _ ⟨⟨by omega, by omega⟩, by omega, by omega⟩).tr (t3.mono (fun n h => by unfold inR at h; unfold stR; omega))
  · rw [if_neg (by decide), if_pos rfl, gg_St_job _ H.os, Option.bind_some]
    have hJ : ∃ J, aJ A = some J ∧ jAt J = i := by
      unfold isAtA at h
      cases hj : aJ A with
      | none => rw [hj] at h; exact absurd h (by simp [atO])
      | some J => rw [hj] at h; exact ⟨J, rfl, by simpa [atO] using h⟩
    obtain ⟨J, hj, hja⟩ := hJ
    exact s_St_lay H hj (hroom J hj hja) _
end MOV
