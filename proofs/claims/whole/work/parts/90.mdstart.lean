/-! THE REFERENCE: begun from a TABLE -/
def pk3 (t : Nat × Nat × Nat) : Nat := t.1 + 1000 * t.2.1 + 1000000 * t.2.2
def isMT (G : GG) (P : PP) (T : TT) : Prop := G.1 624 1 = nI (pBt P) ∧ (G.1 624 3 = nI T.1.length ∧ ∀ r (h : r < T.1.length), G.1 624 (17 + r) = nI (pk3 T.1[r])) ∧ G.1 624 4 = nI T.2.length ∧ ∀ p (h : p < T.2.length), G.1 624 (37 + p) = nI T.2[p].1 ∧ G.1 624 (45 + p) = nI T.2[p].2
/-- the tables, but for the batch in use -/
def isMP0 (G : GG) (P : PP) : Prop := (G.1 624 0 = nI (pPg P) ∧ G.1 624 2 = nI (pNi P)) ∧ (∀ i, i < pNi P → G.1 624 (9 + i) = nI (pKd P i) ∧ G.1 624 (13 + i) = nI (pCo P i)) ∧ isMW G 0 (pCh P) ∧ isMW G 1 (pPa P)
theorem isMT.off {G G' : GG} {P : PP} {T : TT} (h : isMT G P T) (e : G'.1 624 = G.1 624) : isMT G' P T := by
  unfold isMT at h ⊢
  rw [e]
  exact h
theorem cv_inv {x : Option (Option Value × mm_H)} {h' : mm_H} (h : mm_cv x (fun h5 => (some (none, h5) : Option (Option Value × mm_H))) = some (none, h')) : x = some (none, h') := by
  cases x with
  | none => exact absurd h (by simp [mm_cv])
  | some q =>
    obtain ⟨a, c⟩ := q
    cases a with
    | none =>
      have : (some (none, c) : Option (Option Value × mm_H)) = some (none, h') := h
      exact this
    | some u => exact absurd h (by simp [mm_cv])
section MDZ
variable {G : GG} {b : Nat} {P : PP} {A : AS} {T : TT}
/-- a pointer comes -/
theorem MS.ptU (H : MS G b P A) (h : okS P A) {s v : Nat} {f' : Nat → Int32} (hn : aN A < 12) (e : ∀ k, k ≠ b + 4 → k ≠ b + 43 + aN A → k ≠ b + 55 + aN A → k ≠ b + 67 + aN A → f' k = G.1 628 k) (h4 : f' (b + 4) = nI (aN A + 1)) (h43 : f' (b + 43 + aN A) = nI s) (h55 : f' (b + 55 + aN A) = nI v) (h67 : f' (b + 67 + aN A) = -3) : isMS f' b P (setT A (aN A + 1) (fun p => if p = aN A then s else aS A p) (setP (aT A) (aN A) (nI v)) (setP (aB A) (aN A) (-1))) := by
  have hni := h.ni
  have hr := h.kr.1
  refine ⟨⟨by rw [e _ (by omega) (by omega) (by omega) (by omega)]; exact H.d, by rw [e _ (by omega) (by omega) (by omega) (by omega)]; exact H.c, by rw [e _ (by omega) (by omega) (by omega) (by omega)]; exact H.m, by rw [e _ (by omega) (by omega) (by omega) (by omega)]; exact H.x⟩, fun r hr2 => ?_, ⟨h4, fun p hp1 => ?_⟩, fun j hj => ?_, ?_⟩
  · have h2 : r < aM A := hr2
    rw [e _ (by omega) (by omega) (by omega) (by omega)]; exact H.v r h2
  · have h2 : p < aN A + 1 := hp1
    show f' (b + 43 + p) = nI (if p = aN A then s else aS A p) ∧ f' (b + 55 + p) = setP (aT A) (aN A) (nI v) p
    by_cases eq : p = aN A
    · rw [eq, if_pos rfl, show setP (aT A) (aN A) (nI v) (aN A) = nI v from if_pos rfl]; exact ⟨h43, h55⟩
    · rw [if_neg eq, show setP (aT A) (aN A) (nI v) p = aT A p from if_neg eq, e _ (by omega) (by omega) (by omega) (by omega), e _ (by omega) (by omega) (by omega) (by omega)]
      exact H.pt.2 p (by omega)
  · exact ms_tree (A := A) H.2.2.2.2.1 (fun i hi => h.kl hi) hj (fun k k1 k2 => e k (by omega) (by omega) (by omega) (by omega))
  · show isMJ f' b P _ (aJ A)
    have hj := H.j
    cases hJ : aJ A with
    | none =>
      rw [hJ] at hj
      exact ⟨by rw [e _ (by omega) (by omega) (by omega) (by omega)]; exact hj.1, by rw [e _ (by omega) (by omega) (by omega) (by omega)]; exact hj.2⟩
    | some J =>
      have hk2 := h.ka.2.2.2
      rw [hJ] at hj hk2
      obtain ⟨-, z2, z3, -⟩ := (show okJ J from hk2)
      obtain ⟨⟨c5, c6, c7, c8, c9, c10, c11, c12⟩, sd, rr, t, w⟩ := hj
      refine ⟨⟨by rw [e _ (by omega) (by omega) (by omega) (by omega)]; exact c5, by rw [e _ (by omega) (by omega) (by omega) (by omega)]; exact c6, by rw [e _ (by omega) (by omega) (by omega) (by omega)]; exact c7, by rw [e _ (by omega) (by omega) (by omega) (by omega)]; exact c8, by rw [e _ (by omega) (by omega) (by omega) (by omega)]; exact c9, by rw [e _ (by omega) (by omega) (by omega) (by omega)]; exact c10, by rw [e _ (by omega) (by omega) (by omega) (by omega)]; exact c11, by rw [e _ (by omega) (by omega) (by omega) (by omega)]; exact c12⟩, fun k hk3 => by rw [e _ (by omega) (by omega) (by omega) (by omega)]; exact sd k hk3, fun k hk3 => by rw [e _ (by omega) (by omega) (by omega) (by omega), e _ (by omega) (by omega) (by omega) (by omega)]; exact rr k hk3, fun ha => (t ha).cong (by rw [fl_len]; exact (h.st hJ ha).2.1) (fun k x1 x2 => e k (by omega) (by omega) (by omega) (by omega)), fun p hp1 => ?_⟩
      have h2 : p < aN A + 1 := hp1
      show wasOk (f' (b + 67 + p)) (if p = aN A then s else aS A p) (setP (aT A) (aN A) (nI v) p) (setP (aB A) (aN A) (-1) p)
      by_cases eq : p = aN A
      · rw [eq, h67]
        unfold wasOk
        rw [if_pos (Or.inl rfl)]
        exact if_pos rfl
      · rw [if_neg eq, show setP (aT A) (aN A) (nI v) p = aT A p from if_neg eq, show setP (aB A) (aN A) (-1) p = aB A p from if_neg eq, e _ (by omega) (by omega) (by omega) (by omega)]
        exact w p (by omega)
/-- a ROW told comes -/
theorem m_seat (H : MS G b P A) (h : INV P A) (hJ : aJ A = none) (hm : aM A < 30) {x y z : Nat} (hx : x ≤ 999) (hy : y ≤ 999) (hz : z ≤ 999) {G2 : GG} (H2 : MS G2 b P (addR A x y z)) {f0 : Nat} (hf0 : 20 < f0) : ∃ G' f', f0 ≤ f' + 10 ∧ mm_run p_Md_starts f0 104 [.ref 618, .int (nI b), .int (nI (aM A)), .int 0] [] (hp G2) = mm_run p_Md_starts f' 46 [.ref 618, .int (nI b), .int (nI (aM A + 1))] [] (hp G') ∧ MS G' b P (admA P A x y z) ∧ mdF (mB b) G2 G' := by
  have hb := H.hb
  have hni := h.ni
  have hkR : okR (aV (addR A x y z)) (aM (addR A x y z)) (aD (addR A x y z)) (aC (addR A x y z)) := h.kr.add hm hx hy hz
  have hfit : ∀ F, fitA P (addR A x y z) noE F = true := fun F => by
    unfold fitA
    rw [show aJ (addR A x y z) = none from hJ]
  obtain ⟨hM, hvm⟩ := adm_mvH h hx hy hz hm (hfit _)
  have hFi : ∀ i, i < pNi P → entsA P (addR A x y z) (aM A) (partA P (addR A x y z) (aM A)) i = if belA P (addR A x y z) i (aM A) then nI (valA P (addR A x y z) i (aM A)) else -1 := fun i hi => ents_i hi
  have hv9 : ∀ i, i < pNi P → valA P (addR A x y z) i (aM A) ≤ 999 := fun i hi => hkR.2.1 _ _ (Nat.lt_succ_self _) (h.pp.2.2.1 i hi).2
  generalize hF : entsA P (addR A x y z) (aM A) (partA P (addR A x y z) (aM A)) = F at *
  have go : ∀ (j i f : Nat) (G3 : GG) (C : AS), i + j = pNi P → j < f → mvd P noE F (aM A) i (addR A x y z) C → C = (List.range i).foldl (moveE P noE F (aM A)) (addR A x y z) → MS G3 b P C → mdF (mB b) G2 G3 → ∃ G' f', f = f' + j + 1 ∧ mm_run p_Md_starts f 104 [.ref 618, .int (nI b), .int (nI (aM A)), .int (nI i)] [] (hp G3) = mm_run p_Md_starts f' 46 [.ref 618, .int (nI b), .int (nI (aM A + 1))] [] (hp G') ∧ MS G' b P (admA P A x y z) ∧ mdF (mB b) G2 G' := by
    intro j
    induction j with
    | zero =>
      intro i f G3 C hi hf hd hC H3 q3
      obtain ⟨f, rfl⟩ : ∃ g, f = g + 1 := ⟨f - 1, by omega⟩
      have : C = admA P A x y z := by
        rw [hC, show i = pNi P by omega]
        unfold admA moveA
        rw [hF]
      rw [this] at H3
      refine ⟨G3, f, rfl, ?_, H3, q3⟩
      rw [e_Md_starts_104, m_indexes H3.hP, ci_some, if_neg (lm (by omega) (by omega)), show nI (aM A) + 1 = nI (aM A + 1) from nI_add _ 1]
    | succ j ih =>
      intro i f G3 C hi hf hd hC H3 q3
      obtain ⟨f, rfl⟩ : ∃ g, f = g + 1 := ⟨f - 1, by omega⟩
      have hil : i < pNi P := by omega
      have hs3 := mvd_oks hM (by omega) hd
      have hrC : aM A < aM C := by
        have : aM C = aM (addR A x y z) := by unfold aM; rw [hd.1]
        rw [this]; exact Nat.lt_succ_self _
      have hco := (h.pp.2.2.1 i hil).2
      rw [e_Md_starts_104, m_indexes H3.hP, ci_some, if_pos (lp hil (by omega)), m_belS H3 hs3 hil hrC, ci_some, bel_eq hd.1 hd.2.1, show nI i + 1 = nI (i + 1) from nI_add i 1]
      have hnext : (List.range (i + 1)).foldl (moveE P noE F (aM A)) (addR A x y z) = moveE P noE F (aM A) C i := by rw [List.range_succ, List.foldl_append, List.foldl_cons, List.foldl_nil, ← hC]
      have hFi' := hFi i hil
      cases hbl : belA P (addR A x y z) i (aM A)
      · rw [hbl] at hFi'
        rw [if_pos (by decide)]
        have hmv : moveE P noE F (aM A) C i = C := by unfold moveE; rw [if_pos (show noE i = F i by rw [hFi']; rfl)]
        obtain ⟨G', f', e1, e2⟩ := ih (i + 1) f G3 C (by omega) (by omega) (by have := mvd_s hd; rw [hmv] at this; exact this) (by rw [hnext, hmv]) H3 q3
        exact ⟨G', f', by omega, e2⟩
      · rw [hbl, if_pos rfl] at hFi'
        have hv := hv9 i hil
        have hne : noE i ≠ F i := by rw [hFi']; exact fun e => n_m1 (show valA P (addR A x y z) i (aM A) < 2147483648 by omega) e.symm
        have eval : aV C (aM A) (pCo P i) = valA P (addR A x y z) i (aM A) := by unfold aV valA; rw [hd.1]; rfl
        rw [if_neg (by decide), m_columnAt H3.hP hni hil, ci_some, m_valS H3 hs3 hrC hco, ci_some, eval, m_entryOf H3.hP h.pp hil hv, ci_some]
        have etk : takeE P C i (aM A) (noE i) = C := if_pos rfl
        obtain ⟨G4, r1, r2, r3⟩ := mv_enter hM hil hd (by rw [etk]; exact H3) (by rw [etk]; exact hs3) hne hv hFi'
        have hat : isAtA C i = false := by
          rw [mvd_at hM hd]
          unfold isAtA
          rw [hJ]; rfl
        rw [e_Md_entersIndex 618 _ _ _ _ _ (ob_Md G3), m_isAt H3 hs3 (by omega), ci_some, hat, if_pos (by decide), m_entryOf H3.hP h.pp hil hv, ci_some] at r1
        rw [cv_inv r1, cv_some]
        obtain ⟨G', f', e1, e2⟩ := ih (i + 1) f G4 _ (by omega) (by omega) (mvd_s hd) hnext.symm r2 (q3.tr r3)
        exact ⟨G', f', by omega, e2⟩
  obtain ⟨G', f', e1, e2⟩ := go (pNi P) 0 f0 G2 _ (by omega) (by omega) mvd_0 rfl H2 mdF.rf
  exact ⟨G', f', by omega, e2⟩
theorem setX_self (A : AS) : setX A (aX A) = A := rfl
theorem m_starts (hb : b ≤ 9252) (hP : isMP0 G P) (hk : okPP P) (hT : isMT G P T) (hkT : okTd P T) : ∃ G', f_Md_starts [.ref 618, .int (nI b)] (hp G) = some (none, hp G') ∧ MS G' b P (startA P T) ∧ mdF (mB b) (gsi G 618 16 (nI (pBt P))) G' := by
  have hfu : 9999 ≤ mm_fu := Nat.le_of_lt (fu_lt (Nat.le_refl _))
  have hni := hk.2.1
  rw [e_Md_starts 618 _ _ (ob_Md G)]
  -- all cells are cleared
  have clr : ∀ (j k f : Nat), k + j = 514 → j < f → mm_run p_Md_starts f 2 [.ref 618, .int (nI b), .int (nI k)] [] (hp (gsa G 628 (fun q => if b ≤ q ∧ q < b + k then 0 else G.1 628 q))) = mm_run p_Md_starts (f - j) 2 [.ref 618, .int (nI b), .int (nI 514)] [] (hp (gsa G 628 (fun q => if b ≤ q ∧ q < b + 514 then 0 else G.1 628 q))) := by
    intro j
    induction j with
    | zero => intro k f hk2 _; rw [show k = 514 by omega]; rfl
    | succ j ih =>
      intro k f hk2 hf
      obtain ⟨f, rfl⟩ : ∃ g, f = g + 1 := ⟨f - 1, by omega⟩
      rw [e_Md_starts_2, if_pos (show nI k < (514 : Int32) from lp (n := 514) (by omega) (by decide)), gg_Md_state, Option.bind_some, i_add, uu_Md_state _ (by omega), Option.bind_some, gsi_gsa, show nI k + 1 = nI (k + 1) from nI_add k 1]
      have e : upd (fun q => if b ≤ q ∧ q < b + k then 0 else G.1 628 q) (b + k) 0 = fun q => if b ≤ q ∧ q < b + (k + 1) then 0 else G.1 628 q := by
        funext q
        by_cases g : q = b + k
        · rw [g, upd_at, if_pos (by omega)]
        · rw [upd_ne _ _ g]
          by_cases g2 : b ≤ q ∧ q < b + k
          · rw [if_pos g2, if_pos (by omega)]
          · rw [if_neg g2, if_neg (by omega)]
      rw [e, ih (k + 1) f (by omega) (by omega), show f + 1 - (j + 1) = f - j by omega]
  have e0 : gsa G 628 (fun q => if b ≤ q ∧ q < b + 0 then 0 else G.1 628 q) = G := by
    have : (fun q => if b ≤ q ∧ q < b + 0 then 0 else G.1 628 q) = G.1 628 := funext (fun q => if_neg (by omega))
    rw [this, gsa_self]
  have hc := clr 514 0 mm_fu (by omega) (by omega)
  rw [e0] at hc
  rw [show mm_run p_Md_starts mm_fu 2 [.ref 618, .int (nI b), .int 0] [] (hp G) = _ from hc]
  obtain ⟨f1, hf1⟩ : ∃ f, mm_fu - 514 = f + 1 := ⟨mm_fu - 514 - 1, by omega⟩
  rw [hf1, e_Md_starts_2, if_neg (show ¬ nI 514 < (514 : Int32) by decide), gg_Md_state, Option.bind_some, show mm_si (hp (gsa G 628 (fun q => if b ≤ q ∧ q < b + 514 then 0 else G.1 628 q))) 628 (nI b + 7) (-1) = _ from wr hb 7 (by omega) _, Option.bind_some, gsi_gsa, gg_Md_tables, Option.bind_some, show mm_li (hp (gsa G 628 (upd (fun q => if b ≤ q ∧ q < b + 514 then 0 else G.1 628 q) (b + 7) (-1)))) 624 1 = _ from rr_Md_tables _ (i := 1) (by decide), Option.bind_some, show (gsa G 628 (upd (fun q => if b ≤ q ∧ q < b + 514 then 0 else G.1 628 q) (b + 7) (-1))).1 624 1 = nI (pBt P) from hT.1, ww_Md_batch, Option.bind_some]
  generalize hG1 : gsi (gsa G 628 (upd (fun q => if b ≤ q ∧ q < b + 514 then 0 else G.1 628 q) (b + 7) (-1))) 618 16 (nI (pBt P)) = G1
  have ev : G1.1 628 = upd (fun q => if b ≤ q ∧ q < b + 514 then 0 else G.1 628 q) (b + 7) (-1) := by rw [← hG1, gsi_i, if_neg (by decide), gsa_i, if_pos rfl]
  have hother : ∀ n, n ≠ 628 → n ≠ 618 → G1.1 n = G.1 n := fun n a1 a2 => by rw [← hG1, gsi_i, if_neg a2, gsa_i, if_neg a1]
  have q1 : mdF (mB b) (gsi G 618 16 (nI (pBt P))) G1 := by
    refine ⟨fun n a1 a2 => ?_, ?_, fun k a1 a2 => ?_, fun k hk2 => ?_⟩
    · rw [hother n a1 a2, gsi_i, if_neg a2]
    · rw [← hG1]; rfl
    · rw [← hG1, gsi_i, if_pos rfl, gsi_i, if_pos rfl, gsa_i, if_neg (by decide)]
    · rw [ev, upd_ne _ _ (fun e => hk2 ⟨by omega, by omega⟩), if_neg hk2, gsi_i, if_neg (by decide)]
  have hP1 : isMP G1 P := by
    obtain ⟨⟨a, c⟩, d, e, f⟩ := hP
    have e624 := hother 624 (by decide) (by decide)
    have e625 := hother 625 (by decide) (by decide)
    exact ⟨⟨by rw [e624]; exact a, by rw [e624]; exact c, by rw [← hG1, gsi_i, if_pos rfl, upd_at]⟩, fun i hi => by rw [e624]; exact d i hi, e.off e625, f.off e625⟩
  have hz : ∀ k, k < 514 → k ≠ 7 → G1.1 628 (b + k) = 0 := fun k h1 h2 => by rw [ev, upd_ne _ _ (by omega), if_pos (by omega)]
  have H1 : MS G1 b P (emptyA 0) := by
    refine ⟨⟨hb, hP1⟩, ⟨by have := hz 0 (by omega) (by omega); exact this, hz 1 (by omega) (by omega), hz 2 (by omega) (by omega), hz 3 (by omega) (by omega)⟩, fun r hr => absurd hr (Nat.not_lt_zero _), ⟨hz 4 (by omega) (by omega), fun p hp1 => absurd hp1 (Nat.not_lt_zero _)⟩, fun i hi => ⟨?_, fun k hk2 => absurd hk2 (Nat.not_lt_zero _)⟩, hz 5 (by omega) (by omega), hz 12 (by omega) (by omega)⟩
    have := hz (359 + 31 * i) (by omega) (by omega)
    rw [show b + 359 + 31 * i = b + (359 + 31 * i) by omega, this]
    rfl
  have hT1 : ∀ {G' : GG}, mdF (mB b) (gsi G 618 16 (nI (pBt P))) G' → isMT G' P T := fun q => hT.off (by rw [q.1 624 (by decide) (by decide), gsi_i, if_neg (by decide)])
  obtain ⟨⟨t20, tv⟩, ⟨t8, tp⟩, tonce⟩ := id hkT
  -- the rows
  have rows : ∀ (m l : List (Nat × Nat × Nat)) (f : Nat) (G2 : GG) (Ac : AS) (x : Int32), l ++ m = T.1 → 30 * m.length + 100 < f → MS G2 b P (setX Ac x) → toldN P l 0 Ac → mdF (mB b) (gsi G 618 16 (nI (pBt P))) G2 → ∃ G' f' x', 60 < f' ∧ mm_run p_Md_starts f 46 [.ref 618, .int (nI b), .int (nI l.length)] [] (hp G2) = mm_run p_Md_starts f' 159 [.ref 618, .int (nI b), .int 0] [] (hp G') ∧ MS G' b P (setX (m.foldl (seatT P) Ac) x') ∧ toldN P T.1 0 (m.foldl (seatT P) Ac) ∧ mdF (mB b) (gsi G 618 16 (nI (pBt P))) G' := by
    intro m
    induction m with
    | nil =>
      intro l f G2 Ac x hl hf H2 h2 q2
      obtain ⟨f, rfl⟩ : ∃ g, f = g + 1 := ⟨f - 1, by omega⟩
      rw [List.append_nil] at hl
      refine ⟨G2, f, x, by omega, ?_, H2, by rw [← hl]; exact h2, q2⟩
      rw [e_Md_starts_46, gg_Md_tables, Option.bind_some, show mm_li (hp G2) 624 3 = _ from rr_Md_tables _ (i := 3) (by decide), Option.bind_some, (hT1 q2).2.1.1, hl, if_neg (lm (Nat.le_refl _) (by omega))]
    | cons t m ih =>
      intro l f G2 Ac x hl hf H2 h2 q2
      obtain ⟨f, rfl⟩ : ∃ g, f = g + 1 := ⟨f - 1, by omega⟩
      have hlen : l.length < T.1.length := by rw [← hl]; simp
      have ht : T.1[l.length] = t := by simp [← hl]
      have hmem : t ∈ T.1 := by rw [← hl]; simp
      have hv := tv t hmem
      have hc := (hT1 q2).2.1.2 l.length hlen
      rw [ht] at hc
      obtain ⟨b1, b2, b3, b4, b5, b6⟩ := id h2
      have hm : aM Ac = l.length := b3
      have hInv : INV P (setX Ac x) := b1
      rw [e_Md_starts_46, gg_Md_tables, Option.bind_some, show mm_li (hp G2) 624 3 = _ from rr_Md_tables _ (i := 3) (by decide), Option.bind_some, (hT1 q2).2.1.1, if_pos (lp hlen (by omega)), gg_Md_state, Option.bind_some, Option.bind_some, show (17 : Int32) + nI l.length = nI (17 + l.length) from nI_add 17 _, rr_Md_tables _ (by omega), Option.bind_some, hc, i_row, uu_Md_state _ (by omega), Option.bind_some, gg_Md_state, Option.bind_some, show mm_li (hp (gsi G2 628 (b + 13 + l.length) (nI (pk3 t)))) 628 (nI b + 0) = _ from rd hb 0 (by omega), Option.bind_some, show (1 : Int32) <<< (nI l.length &&& 31) = sbit l.length from rfl]
      have d0 : (gsi G2 628 (b + 13 + l.length) (nI (pk3 t))).1 628 (b + 0) = aD Ac := by rw [Nat.add_zero, gsi_i, if_pos rfl, upd_ne _ _ (by omega)]; exact H2.d
      rw [d0, show mm_si (hp (gsi G2 628 (b + 13 + l.length) (nI (pk3 t)))) 628 (nI b + 0) (aD Ac ||| sbit l.length) = _ from wr hb 0 (by omega) _, Option.bind_some, gg_Md_state, Option.bind_some, show mm_li (hp (gsi (gsi G2 628 (b + 13 + l.length) (nI (pk3 t))) 628 (b + 0) (aD Ac ||| sbit l.length))) 628 (nI b + 2) = _ from rd hb 2 (by omega), Option.bind_some]
      have d2 : (gsi (gsi G2 628 (b + 13 + l.length) (nI (pk3 t))) 628 (b + 0) (aD Ac ||| sbit l.length)).1 628 (b + 2) = nI l.length := by
        rw [gsi_i, if_pos rfl, upd_ne _ _ (by omega), gsi_i, if_pos rfl, upd_ne _ _ (by omega), ← hm]; exact H2.m
      rw [d2, show nI l.length + 1 = nI (l.length + 1) from nI_add _ 1, show mm_si (hp (gsi (gsi G2 628 (b + 13 + l.length) (nI (pk3 t))) 628 (b + 0) (aD Ac ||| sbit l.length))) 628 (nI b + 2) (nI (l.length + 1)) = _ from wr hb 2 (by omega) _, Option.bind_some]
      generalize hG3 : gsi (gsi (gsi G2 628 (b + 13 + l.length) (nI (pk3 t))) 628 (b + 0) (aD Ac ||| sbit l.length)) 628 (b + 2) (nI (l.length + 1)) = G3
      have ev3 : G3.1 628 = upd (upd (upd (G2.1 628) (b + 13 + l.length) (nI (pk3 t))) b (aD Ac ||| sbit l.length)) (b + 2) (nI (l.length + 1)) := by rw [← hG3]; rfl
      have q3 : mdF (mB b) G2 G3 := by rw [← hG3]; exact ((mdF.cell ⟨by omega, by omega⟩).tr (mdF.cell ⟨by omega, by omega⟩)).tr (mdF.cell ⟨by omega, by omega⟩)
      have H3 : MS G3 b P (addR (setX Ac x) t.1 t.2.1 t.2.2) := by
        refine ⟨⟨hb, H2.hP.fr q3⟩, H2.setRU hInv.os (f' := G3.1 628) (V := newV (aV Ac) (aM Ac) t.1 t.2.1 t.2.2) (m := aM Ac + 1) (D := aD Ac ||| sbit (aM Ac)) (by omega) (fun j x1 x2 x3 => by rw [ev3, upd_ne _ _ x2, upd_ne _ _ x1, upd_ne _ _ (by omega)]) (by rw [ev3, upd_ne _ _ (by omega), upd_at, hm]) (by rw [ev3, upd_at, hm]) (fun q hq => ?_)⟩
        rw [ev3, upd_ne _ _ (by omega), upd_ne _ _ (by omega)]
        unfold pkV newV
        by_cases eq : q = aM Ac
        · rw [if_pos eq, if_pos eq, if_pos eq, eq, hm, upd_at]
          rfl
        · rw [if_neg eq, if_neg eq, if_neg eq, upd_ne _ _ (by omega)]
          exact H2.v q (by show q < aM Ac; omega)
      obtain ⟨G4, f4, g1, g2, g3, g4⟩ := m_seat H2 hInv b2 (show aM (setX Ac x) < 30 by show aM Ac < 30; omega) hv.1 hv.2.1 hv.2.2 H3 (f0 := f) (by omega)
      have g2' : mm_run p_Md_starts f 104 [.ref 618, .int (nI b), .int (nI l.length), .int 0] [] (hp G3) = mm_run p_Md_starts f4 46 [.ref 618, .int (nI b), .int (nI (l ++ [t]).length)] [] (hp G4) := by
        rw [List.length_append, ← hm]
        exact g2
      rw [g2']
      have hseat : admA P (setX Ac x) t.1 t.2.1 t.2.2 = setX (seatT P Ac t) (aX (admA P (setX Ac x) t.1 t.2.1 t.2.2)) := by
        have := seat_eq (P := P) (A := setX Ac x) b2 t.1 t.2.1 t.2.2
        have h3 : setX (setX (admA P (setX Ac x) t.1 t.2.1 t.2.2) (aX (setX Ac x))) (aX (admA P (setX Ac x) t.1 t.2.1 t.2.2)) = setX (seatA P (setX Ac x) t.1 t.2.1 t.2.2) (aX (admA P (setX Ac x) t.1 t.2.1 t.2.2)) := by rw [this]
        exact h3
      rw [hseat] at g3
      have h3 := told_s h2 (t := t) (by omega) hv (fun i hi hk2 u hu => by
        have := tonce i hi hk2
        rw [← hl] at this
        exact (List.pairwise_append.mp this).2.2 u hu t List.mem_cons_self)
      exact ih (l ++ [t]) f4 G4 _ _ (by rw [List.append_assoc]; exact hl) (by simp only [List.length_cons] at hf; omega) g3 h3 ((q2.tr q3).tr g4)
  obtain ⟨G5, f5, x5, hf5, r1, r2, r3, r4⟩ := rows T.1 [] f1 G1 (emptyA 0) 0 rfl (by omega) H1 (told_0 hk 0) q1
  rw [show mm_run p_Md_starts f1 46 [.ref 618, .int (nI b), .int 0] [] (hp G1) = _ from r1]
  -- the pointers
  have pts : ∀ (m l : List (Nat × Nat)) (f : Nat) (G2 : GG) (Ac : AS) (x : Int32), l ++ m = T.2 → m.length < f → MS G2 b P (setX Ac x) → toldN P T.1 l.length Ac → mdF (mB b) (gsi G 618 16 (nI (pBt P))) G2 → ∃ G', mm_run p_Md_starts f 159 [.ref 618, .int (nI b), .int (nI l.length)] [] (hp G2) = some (none, hp G') ∧ MS G' b P (setX (m.foldl aimT Ac) 0) ∧ mdF (mB b) (gsi G 618 16 (nI (pBt P))) G' := by
    intro m
    induction m with
    | nil =>
      intro l f G2 Ac x hl hf H2 h2 q2
      obtain ⟨f, rfl⟩ : ∃ g, f = g + 1 := ⟨f - 1, by omega⟩
      rw [List.append_nil] at hl
      rw [e_Md_starts_159, gg_Md_tables, Option.bind_some, show mm_li (hp G2) 624 4 = _ from rr_Md_tables _ (i := 4) (by decide), Option.bind_some, (hT1 q2).2.2.1, hl, if_neg (lm (Nat.le_refl _) (by omega)), gg_Md_state, Option.bind_some, show mm_si (hp G2) 628 (nI b + 3) 0 = _ from wr hb 3 (by omega) _, Option.bind_some]
      have hInv : INV P (setX Ac x) := h2.1
      exact ⟨_, rfl, H2.spentU hInv.os 0, q2.tr (mdF.cell ⟨by omega, by omega⟩)⟩
    | cons t m ih =>
      intro l f G2 Ac x hl hf H2 h2 q2
      obtain ⟨f, rfl⟩ : ∃ g, f = g + 1 := ⟨f - 1, by omega⟩
      have hlen : l.length < T.2.length := by rw [← hl]; simp
      have ht : T.2[l.length] = t := by simp [← hl]
      have hmem : t ∈ T.2 := by rw [← hl]; simp
      have hv := tp t hmem
      have hc := (hT1 q2).2.2.2 l.length hlen
      rw [ht] at hc
      obtain ⟨b1, b2, b3, b4, b5, b6⟩ := id h2
      have hInv : INV P (setX Ac x) := b1
      have hnl : aN Ac = l.length := b4
      rw [e_Md_starts_159, gg_Md_tables, Option.bind_some, show mm_li (hp G2) 624 4 = _ from rr_Md_tables _ (i := 4) (by decide), Option.bind_some, (hT1 q2).2.2.1, if_pos (lp hlen (by omega)), gg_Md_state, Option.bind_some, Option.bind_some, show (37 : Int32) + nI l.length = nI (37 + l.length) from nI_add 37 _, rr_Md_tables _ (by omega), Option.bind_some, hc.1, show mm_si (hp G2) 628 ((nI b + 43) + nI l.length) (nI t.1) = _ from wr2 hb 43 l.length (by omega) _, Option.bind_some, gg_Md_state, Option.bind_some, gg_Md_tables, Option.bind_some, show (45 : Int32) + nI l.length = nI (45 + l.length) from nI_add 45 _, rr_Md_tables _ (by omega), Option.bind_some, show (gsi G2 628 (b + 43 + l.length) (nI t.1)).1 624 (45 + l.length) = nI t.2 from hc.2, show mm_si (hp (gsi G2 628 (b + 43 + l.length) (nI t.1))) 628 ((nI b + 55) + nI l.length) (nI t.2) = _ from wr2 hb 55 l.length (by omega) _, Option.bind_some, gg_Md_state, Option.bind_some, show mm_si (hp (gsi (gsi G2 628 (b + 43 + l.length) (nI t.1)) 628 (b + 55 + l.length) (nI t.2))) 628 ((nI b + 67) + nI l.length) (-3) = _ from wr2 hb 67 l.length (by omega) _, Option.bind_some, gg_Md_state, Option.bind_some]
      generalize hG3 : gsi (gsi (gsi G2 628 (b + 43 + l.length) (nI t.1)) 628 (b + 55 + l.length) (nI t.2)) 628 (b + 67 + l.length) (-3) = G3
      have ev3 : G3.1 628 = upd (upd (upd (G2.1 628) (b + 43 + l.length) (nI t.1)) (b + 55 + l.length) (nI t.2)) (b + 67 + l.length) (-3) := by rw [← hG3]; rfl
      have q3 : mdF (mB b) G2 G3 := by rw [← hG3]; exact ((mdF.cell ⟨by omega, by omega⟩).tr (mdF.cell ⟨by omega, by omega⟩)).tr (mdF.cell ⟨by omega, by omega⟩)
      have d4 : G3.1 628 (b + 4) = nI l.length := by rw [ev3, upd_ne _ _ (by omega), upd_ne _ _ (by omega), upd_ne _ _ (by omega), ← hnl]; exact H2.pt.1
      rw [show mm_li (hp G3) 628 (nI b + 4) = _ from rd hb 4 (by omega), Option.bind_some, d4, show nI l.length + 1 = nI (l.length + 1) from nI_add _ 1, show mm_si (hp G3) 628 (nI b + 4) (nI (l.length + 1)) = _ from wr hb 4 (by omega) _, Option.bind_some]
      obtain ⟨h3, hcan⟩ := told_p h2 (q := t) (by omega) hv t20
      have q4 : mdF (mB b) G3 (gsi G3 628 (b + 4) (nI (l.length + 1))) := mdF.cell ⟨by omega, by omega⟩
      have H4 : MS (gsi G3 628 (b + 4) (nI (l.length + 1))) b P (setX (aimT Ac t) x) := by
        have ev4 : (gsi G3 628 (b + 4) (nI (l.length + 1))).1 628 = upd (G3.1 628) (b + 4) (nI (l.length + 1)) := rfl
        have := H2.ptU hInv.os (s := t.1) (v := t.2) (f' := (gsi G3 628 (b + 4) (nI (l.length + 1))).1 628) (show aN Ac < 12 by omega) (fun k x1 x2 x3 x4 => by
          have y2 : k ≠ b + 43 + l.length := by rw [← hnl]; exact x2
          have y3 : k ≠ b + 55 + l.length := by rw [← hnl]; exact x3
          have y4 : k ≠ b + 67 + l.length := by rw [← hnl]; exact x4
          rw [ev4, upd_ne _ _ x1, ev3, upd_ne _ _ y4, upd_ne _ _ y3, upd_ne _ _ y2]) (by rw [ev4, upd_at, ← hnl]; rfl) (by
          show _ = _
          rw [show aN (setX Ac x) = l.length from hnl, ev4, upd_ne _ _ (by omega), ev3, upd_ne _ _ (by omega), upd_ne _ _ (by omega), upd_at]) (by rw [show aN (setX Ac x) = l.length from hnl, ev4, upd_ne _ _ (by omega), ev3, upd_ne _ _ (by omega), upd_at]) (by rw [show aN (setX Ac x) = l.length from hnl, ev4, upd_ne _ _ (by omega), ev3, upd_at])
        refine ⟨⟨hb, H2.hP.fr (q3.tr q4)⟩, ?_⟩
        unfold aimT aimA
        rw [nI_tn (by omega)]
        exact this
      rw [show nI (l.length + 1) = nI (l ++ [t]).length by rw [List.length_append]; rfl] at *
      refine ih (l ++ [t]) f _ (aimT Ac t) x (by rw [List.append_assoc]; exact hl) (by simp only [List.length_cons] at hf; omega) H4 ?_ ((q2.tr q3).tr q4)
      rw [List.length_append]
      exact h3
  obtain ⟨G6, z1, z2, z3⟩ := pts T.2 [] f5 G5 _ x5 rfl (by omega) r2 r3 r4
  refine ⟨G6, z1, ?_, z3⟩
  have := start_X P T 0
  unfold startB at this
  rw [← this]
  exact z2
end MDZ
