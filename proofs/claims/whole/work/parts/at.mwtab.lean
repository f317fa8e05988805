/-! THE REFERENCE: a TABLE as it is told -/
def cel (B : TB) (k : Nat) : Option Int32 :=
  if k = 0 then some (nI (tPg B)) else if k = 1 then some (nI (tBt B)) else if k = 2 then some (nI (tIx B).length) else if k = 3 then some (nI (tRw B).length) else if k = 4 then some (nI (tPt B).length)
  else if k = 5 then some (b2 (tBn B 0)) else if k = 6 then some (b2 (tBn B 1)) else if k = 7 then some (b2 (tBn B 7)) else if k = 8 then some (b2 (tBn B 8))
  else if k < 13 then ((tIx B)[k - 9]?).map (fun q => nI q.2.1) else if k < 17 then ((tIx B)[k - 13]?).map (fun q => nI q.2.2)
  else if k < 37 then ((tRw B)[k - 17]?).map (fun t => nI (pk3 t)) else if k < 45 then ((tPt B)[k - 37]?).map (fun q => nI q.1) else ((tPt B)[k - 45]?).map (fun q => nI q.2)
def isMC (f : Nat → Int32) (o : Nat) (B : TB) : Prop := ∀ k, k < 53 → ∀ v, cel B k = some v → f (o + k) = v
theorem isMC.go {f g : Nat → Int32} {o : Nat} {B B' : TB} (h : isMC f o B) (hg : ∀ k, k < 53 → (g (o + k) = f (o + k) ∧ cel B' k = cel B k) ∨ cel B' k = some (g (o + k)) ∨ cel B' k = none) : isMC g o B' := fun k hk v hv => by
  rcases hg k hk with ⟨a, b⟩ | b | b
  · rw [a]; exact h k hk v (by rw [← b]; exact hv)
  · rw [b] at hv; exact Option.some.inj hv
  · rw [b] at hv; cases hv
def isMN (G : GG) (n : Nat) (N : List (List Nat × Nat × Nat)) : Prop := ∀ i (h : i < N.length), G.2.1 626 (n + i) = lL (pkL 37 N[i].1)
def isMB (G : GG) (o w n : Nat) (B : TB) : Prop := isMC (G.1 624) o B ∧ isMN G n (tIx B) ∧ isMW G w (tCh B) ∧ isMW G (w + 1) (tPa B)
/-- no two INDEXES have one name -/
def nDis (N : List (List Nat × Nat × Nat)) : Prop := N.Pairwise (fun a b => a.1 ≠ b.1)
theorem pLn_nd {S : List Nat} {B B' : TB} {j j2 : Nat} (hB : nDis (tIx B)) (h : pLn S B j = .inr (B', j2)) : nDis (tIx B') := by
  unfold pLn at h
  split at h
  · unfold pPage at h
    split at h
    · cases h
    · unfold pPage1 at h
      obtain ⟨v, j3, -, h⟩ := thn_inr h
      obtain ⟨-, j4, -, h⟩ := thn_inr h
      cases h; exact hB
  split at h
  · unfold pBatch at h
    split at h
    · cases h
    · unfold pBatch1 at h
      obtain ⟨v, j3, -, h⟩ := thn_inr h
      obtain ⟨-, j4, -, h⟩ := thn_inr h
      cases h; exact hB
  split at h
  · unfold pIndex at h
    split at h
    · cases h
    split at h
    · cases h
    split at h
    · split at h
      · cases h
      · rename_i hn
        obtain ⟨k, j3, -, h⟩ := thn_inr h
        obtain ⟨-, j4, -, h⟩ := thn_inr h
        obtain ⟨c, j5, -, h⟩ := thn_inr h
        obtain ⟨-, j6, -, h⟩ := thn_inr h
        cases h
        show nDis (tIx B ++ [_])
        refine List.pairwise_append.2 ⟨hB, List.pairwise_singleton _ _, fun t ht u hu => ?_⟩
        rw [List.mem_singleton.1 hu]
        intro q
        apply hn
        unfold nmd
        rw [List.findIdx?_isSome]
        exact List.any_eq_true.2 ⟨t, ht, decide_eq_true q⟩
    · cases h
  split at h
  · unfold pRow at h
    split at h
    · cases h
    obtain ⟨x, j3, -, h⟩ := thn_inr h
    obtain ⟨y, j4, -, h⟩ := thn_inr h
    obtain ⟨z, j5, -, h⟩ := thn_inr h
    obtain ⟨-, j6, -, h⟩ := thn_inr h
    cases h; exact hB
  split at h
  · unfold pPoint at h
    split at h
    · cases h
    obtain ⟨s, j3, -, h⟩ := thn_inr h
    obtain ⟨-, j4, -, h⟩ := thn_inr h
    split at h
    · cases h
    obtain ⟨v, j5, -, h⟩ := thn_inr h
    obtain ⟨-, j6, -, h⟩ := thn_inr h
    cases h; exact hB
  split at h
  · unfold pChoose at h
    split at h
    · cases h
    · unfold pChoose1 at h
      obtain ⟨w, j3, -, h⟩ := thn_inr h
      cases h; exact hB
  split at h
  · unfold pPart at h
    split at h
    · cases h
    · unfold pPart1 at h
      obtain ⟨w, j3, -, h⟩ := thn_inr h
      cases h; exact hB
  · cases h
theorem pTab_nd {S : List Nat} : ∀ (f : Nat) (B B' : TB) (j j2 : Nat), nDis (tIx B) → pTab S f B j = .inr (B', j2) → nDis (tIx B') := by
  intro f
  induction f with
  | zero => intro B B' j j2 h1 h; cases h; exact h1
  | succ f ih =>
    intro B B' j j2 h1 h
    unfold pTab at h
    split at h
    · cases h; exact h1
    · obtain ⟨B1, j3, e1, e2⟩ := thn_inr h
      exact ih B1 B' j3 j2 (pLn_nd h1 e1) e2
/-- only what is being told is changed -/
def drE (G G' : GG) : Prop := (∀ n, n ≠ 618 → n ≠ 624 → n ≠ 625 → G'.1 n = G.1 n) ∧ (∀ n, n ≠ 626 → G'.2.1 n = G.2.1 n) ∧ G'.2.2 = G.2.2 ∧ (∀ k, k ≠ 7 → k ≠ 8 → G'.1 618 k = G.1 618 k) ∧ (∀ k, k < 53 → G'.1 624 k = G.1 624 k) ∧ (∀ k, k < 146 → G'.1 625 k = G.1 625 k) ∧ ∀ k, k < 4 → G'.2.1 626 k = G.2.1 626 k
theorem drE.rf {G : GG} : drE G G := ⟨fun _ _ _ _ => rfl, fun _ _ => rfl, rfl, fun _ _ _ => rfl, fun _ _ => rfl, fun _ _ => rfl, fun _ _ => rfl⟩
theorem drE.tr {G1 G2 G3 : GG} (h1 : drE G1 G2) (h2 : drE G2 G3) : drE G1 G3 := ⟨fun n a b c => (h2.1 n a b c).trans (h1.1 n a b c), fun n a => (h2.2.1 n a).trans (h1.2.1 n a), h2.2.2.1.trans h1.2.2.1, fun k a b => (h2.2.2.2.1 k a b).trans (h1.2.2.2.1 k a b), fun k a => (h2.2.2.2.2.1 k a).trans (h1.2.2.2.2.1 k a), fun k a => (h2.2.2.2.2.2.1 k a).trans (h1.2.2.2.2.2.1 k a), fun k a => (h2.2.2.2.2.2.2 k a).trans (h1.2.2.2.2.2.2 k a)⟩
theorem mrE.dr {G G' : GG} (h : mrE G G') : drE G G' := ⟨fun n a _ _ => h.1 n a, fun n _ => by rw [h.2.1], by rw [h.2.1], h.2.2, fun k _ => by rw [h.1 624 (by decide)], fun k _ => by rw [h.1 625 (by decide)], fun k _ => by rw [h.2.1]⟩
theorem drE.tab {G : GG} {k : Nat} {v : Int32} (hk : 53 ≤ k) : drE G (gsi G 624 k v) := ⟨fun n _ b _ => f6o _ _ b, fun _ _ => rfl, rfl, fun k _ _ => by rw [f6o _ _ (by decide)], fun j hj => fdn _ _ (by omega), fun j _ => by rw [f6o _ _ (by decide)], fun _ _ => rfl⟩
theorem drE.whe {G : GG} {k : Nat} {v : Int32} (hk : 146 ≤ k) : drE G (gsi G 625 k v) := ⟨fun n _ _ c => f6o _ _ c, fun _ _ => rfl, rfl, fun k _ _ => by rw [f6o _ _ (by decide)], fun j hj => by rw [f6o _ _ (by decide)], fun j _ => fdn _ _ (by omega), fun _ _ => rfl⟩
def RY (G : GG) (S : List Nat) (x : Nat ⊕ (TB × Nat)) : Prop := RX G S x ∧ ∀ B j, x = .inr (B, j) → isMB G 53 2 4 B
section MTB
variable {G G' : GG} {S : List Nat} {e j : Nat} {B : TB}
theorem isMW.cg {w : Nat} {W : List Lim} (h : isMW G w W) (e : G'.1 625 = G.1 625) : isMW G' w W := by
  unfold isMW isML at h ⊢
  rw [e]
  exact h
theorem isMB.mr {o w n : Nat} (h : isMB G o w n B) (hE : mrE G G') : isMB G' o w n B := ⟨by rw [hE.1 624 (by decide)]; exact h.1, fun i hi => by rw [hE.2.1]; exact h.2.1 i hi, h.2.2.1.cg (hE.1 625 (by decide)), h.2.2.2.cg (hE.1 625 (by decide))⟩
theorem m_toldc {k : Nat} (hk : k < 53) : f_Md_told [.ref 618, .int (nI k)] (hp G) = some (some (.int (G.1 624 (53 + k))), hp G) := by
  rw [e_Md_told 618 _ _ (ob_Md G), gg_Md_tables, Option.bind_some, show (53 : Int32) + nI k = nI (53 + k) from i_add 53 k, rr_Md_tables _ (by omega), Option.bind_some]
theorem m_isc {k : Nat} (hk : k < 53) (v : Int32) : f_Md_is [.ref 618, .int (nI k), .int v] (hp G) = some (none, hp (gsi G 624 (53 + k) v)) := by
  rw [e_Md_is 618 _ _ _ (ob_Md G), gg_Md_tables, Option.bind_some, show (53 : Int32) + nI k = nI (53 + k) from i_add 53 k, uu_Md_tables _ (by omega), Option.bind_some]
theorem isMB.c (h : isMB G 53 2 4 B) {k : Nat} (hk : k < 53) {v : Int32} (hv : cel B k = some v) : G.1 624 (53 + k) = v := h.1 k hk v hv
theorem m_toldB (h : isMB G 53 2 4 B) {k : Nat} (hk : k < 53) {v : Int32} (hv : cel B k = some v) : f_Md_told [.ref 618, .int (nI k)] (hp G) = some (some (.int v), hp G) := by rw [m_toldc hk, h.c hk hv]
/-- cells of the table are written -/
theorem isMB.wrd {B' : TB} (h : isMB G 53 2 4 B) {g : Nat → Int32} (hg : ∀ k, k < 53 → (g (53 + k) = G.1 624 (53 + k) ∧ cel B' k = cel B k) ∨ cel B' k = some (g (53 + k)) ∨ cel B' k = none) (h4 : G'.1 624 = g) (h5 : G'.1 625 = G.1 625) (h6 : isMN G' 4 (tIx B')) (e1 : tCh B' = tCh B) (e2 : tPa B' = tPa B) : isMB G' 53 2 4 B' := ⟨by rw [h4]; exact h.1.go hg, h6, by rw [e1]; exact h.2.2.1.cg h5, by rw [e2]; exact h.2.2.2.cg h5⟩
theorem m_pageR (h : RMd G S 0 j) (hB : isMB G 53 2 4 B) (hS : S.length ≤ 1000) : ∃ G', f_Md_reads [.ref 618, .int 0] (hp G) = some (none, hp G') ∧ RY G' S (thn (pNum S 2 8 j) fun v j => .inr ((v, tBt B, tBn B, tIx B, tRw B, tPt B, tCh B, tPa B), j)) ∧ drE G G' := by
  obtain ⟨G1, v, r1, r2, r3, r4⟩ := m_num (x := (.inr ((), j) : Nat ⊕ (Unit × Nat))) h hS (lo := 2) (hi := 8) (by decide) (by decide)
  rw [e_Md_reads 618 _ _ (ob_Md G), if_pos rfl, show f_Md_takeNumber [.ref 618, .int 2, .int 8] (hp G) = _ from r1, ci_some, show f_Md_is [.ref 618, .int 0, .int v] (hp G1) = _ from m_isc (k := 0) (by decide) v, cv_some]
  rw [thn_r] at r2 r3
  refine ⟨_, rfl, ?_, r4.dr.tr (drE.tab (by decide))⟩
  cases hp1 : pNum S 2 8 j with
  | inl e =>
    rw [hp1] at r2
    exact ⟨RX.arr (x := (.inl e : Nat ⊕ (TB × Nat))) r2 (by decide), fun B j q => (by cases q)⟩
  | inr q =>
    obtain ⟨a, j2⟩ := q
    rw [hp1] at r2
    have hv := r3 a j2 hp1
    refine ⟨RMd.arr (j := j2) r2 (by decide), fun B' j' q => ?_⟩
    cases q
    refine (hB.mr r4).wrd (g := upd (G1.1 624) 53 v) (fun k hk => ?_) (by rw [gsi_i, if_pos rfl]) (f6o _ _ (by decide)) (hB.mr r4).2.1 rfl rfl
    by_cases k0 : k = 0
    · subst k0
      refine Or.inr (Or.inl ?_)
      rw [show upd (G1.1 624) 53 v (53 + 0) = v from upd_at _ _ _, hv]
      rfl
    · refine Or.inl ⟨upd_ne _ _ (by omega), ?_⟩
      unfold cel
      rw [if_neg k0, if_neg k0]
      rfl
theorem m_batchR (h : RMd G S 0 j) (hB : isMB G 53 2 4 B) (hS : S.length ≤ 1000) : ∃ G', f_Md_reads [.ref 618, .int 1] (hp G) = some (none, hp G') ∧ RY G' S (thn (pNum S 1 8 j) fun v j => .inr ((tPg B, v, tBn B, tIx B, tRw B, tPt B, tCh B, tPa B), j)) ∧ drE G G' := by
  obtain ⟨G1, v, r1, r2, r3, r4⟩ := m_num (x := (.inr ((), j) : Nat ⊕ (Unit × Nat))) h hS (lo := 1) (hi := 8) (by decide) (by decide)
  rw [e_Md_reads 618 _ _ (ob_Md G), if_neg (by decide), if_pos rfl, show f_Md_takeNumber [.ref 618, .int 1, .int 8] (hp G) = _ from r1, ci_some, show f_Md_is [.ref 618, .int 1, .int v] (hp G1) = _ from m_isc (k := 1) (by decide) v, cv_some]
  rw [thn_r] at r2 r3
  refine ⟨_, rfl, ?_, r4.dr.tr (drE.tab (by decide))⟩
  cases hp1 : pNum S 1 8 j with
  | inl e =>
    rw [hp1] at r2
    exact ⟨RX.arr (x := (.inl e : Nat ⊕ (TB × Nat))) r2 (by decide), fun B j q => (by cases q)⟩
  | inr q =>
    obtain ⟨a, j2⟩ := q
    rw [hp1] at r2
    have hv := r3 a j2 hp1
    refine ⟨RMd.arr (j := j2) r2 (by decide), fun B' j' q => ?_⟩
    cases q
    refine (hB.mr r4).wrd (g := upd (G1.1 624) 54 v) (fun k hk => ?_) (by rw [gsi_i, if_pos rfl]) (f6o _ _ (by decide)) (hB.mr r4).2.1 rfl rfl
    by_cases k1 : k = 1
    · subst k1
      refine Or.inr (Or.inl ?_)
      rw [show upd (G1.1 624) 54 v (53 + 1) = v from upd_at _ _ _, hv]
      rfl
    · refine Or.inl ⟨upd_ne _ _ (by omega), ?_⟩
      unfold cel
      rw [if_neg k1, if_neg k1]
      rfl
end MTB
