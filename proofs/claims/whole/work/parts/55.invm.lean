/-! what holds at every time: a move keeps it -/
theorem n_below {n : Nat} (h : n < 40000) : nI n - 40000 < 0 := by
  rw [Int32.lt_iff_toInt_lt, Int32.toInt_sub, nI_toInt (by omega)]
  have h1 : (40000 : Int32).toInt = 40000 := by decide
  have h2 : (0 : Int32).toInt = 0 := by decide
  rw [h1, h2]
  have h3 : ((n : Int) - 40000).bmod (2 ^ 32) = (n : Int) - 40000 := by
    rw [Int.bmod_def]
    split <;> omega
  rw [h3]
  omega
theorem ptN_eq (r v : Nat) : ptN r v = nI (1000 * r + v) := by
  unfold ptN
  rw [show (1000 : Int32) = nI 1000 from rfl, n_mul, nI_add]
theorem ptN_ok {r v : Nat} (hr : r < 30) (hv : v ≤ 999) : ¬ ptN r v < 0 ∧ okSd (ptN r v) ∧ sdN (ptN r v) = 1000 * r + v := by
  have h0 : ¬ ptN r v < 0 := by rw [ptN_eq]; exact n_nneg (by omega)
  have h1 : sdN (ptN r v) = 1000 * r + v := by unfold sdN sdI; rw [if_neg h0, ptN_eq, nI_tn (by omega)]
  refine ⟨h0, ⟨?_, by omega⟩, h1⟩
  rw [h1]
  unfold sdI
  rw [if_neg h0, ptN_eq]
theorem tkN_ok {r v : Nat} (hr : r < 30) (hv : v ≤ 999) : tkN r v < 0 ∧ okSd (tkN r v) ∧ sdN (tkN r v) = 1000 * r + v := by
  have e : tkN r v = nI (1000 * r + v) - 40000 := by
    unfold tkN
    rw [show (1000 : Int32) = nI 1000 from rfl, n_mul, nI_add]
  have h0 : tkN r v < 0 := by rw [e]; exact n_below (by omega)
  have e2 : sdI (tkN r v) = nI (1000 * r + v) := by
    unfold sdI
    rw [if_pos h0, e, Int32.sub_add_cancel]
  have h1 : sdN (tkN r v) = 1000 * r + v := by unfold sdN; rw [e2, nI_tn (by omega)]
  exact ⟨h0, ⟨by rw [h1]; exact e2, by omega⟩, h1⟩
theorem sdC_eq {P : PP} {i r v : Nat} (hv : v ≤ 999) {x : Int32} (h : sdN x = 1000 * r + v) : sdC P i x = codD (dnP P i) v r := by
  unfold sdC
  rw [h, show (1000 * r + v) % 1000 = v by omega, show (1000 * r + v) / 1000 = r by omega]
/-- E tells the ENTRY that a ROW has, or that it has none -/
def isEnt (P : PP) (A : AS) (E : Nat → Int32) (r i : Nat) : Prop := (E i = -1 ∧ ∀ c, c % 32 = r → ¬ okV P A i c) ∨ ∃ v, v ≤ 999 ∧ E i = nI v ∧ ∀ c, c % 32 = r → (okV P A i c ↔ c = codD (dnP P i) v r)
section MVI
variable {P : PP} {A B : AS} {E F : Nat → Int32} {r i : Nat}
theorem ent_eq (hE : isEnt P A E r i) (hF : isEnt P B F r i) (e : E i = F i) (hs : ∀ c, c % 32 ≠ r → (okV P B i c ↔ okV P A i c)) (c : Nat) : okV P B i c ↔ okV P A i c := by
  by_cases hc : c % 32 = r
  · rcases hE with ⟨e1, h1⟩ | ⟨v, hv, e1, h1⟩
    · rcases hF with ⟨e2, h2⟩ | ⟨w, hw, e2, h2⟩
      · exact ⟨fun q => absurd q (h2 c hc), fun q => absurd q (h1 c hc)⟩
      · exact absurd (e2.symm.trans (e.symm.trans e1)) (n_m1 (by omega))
    · rcases hF with ⟨e2, h2⟩ | ⟨w, hw, e2, h2⟩
      · exact absurd (e1.symm.trans (e.trans e2)) (n_m1 (by omega))
      · have : v = w := n_inj (by omega) (by omega) (e1.symm.trans (e.trans e2))
        subst this
        rw [h1 c hc, h2 c hc]
  · exact hs c hc
theorem mvT_mem (hr : r < 30) {L : LL} {K : Nat → Prop} (hk : okL (pPg P) L) (hL : ∀ c, c ∈ L.flatten ↔ okV P A i c ∨ K c) (hK : ∀ c, K c → c % 32 ≠ r) (hE : isEnt P A E r i) : okL (pPg P) (mvT P E r i L) ∧ ∀ c, c ∈ (mvT P E r i L).flatten ↔ (okV P A i c ∧ c % 32 ≠ r) ∨ K c := by
  unfold mvT
  rcases hE with ⟨e1, h1⟩ | ⟨v, hv, e1, h1⟩
  · rw [if_pos e1]
    refine ⟨hk, fun c => ?_⟩
    rw [hL]
    exact ⟨fun q => q.imp (fun q => ⟨q, fun hc => h1 c hc q⟩) id, fun q => q.imp (fun q => q.1) id⟩
  · have hne : ¬ E i = -1 := by rw [e1]; exact n_m1 (by omega)
    rw [if_neg hne, e1, nI_tn (by omega)]
    have hc32 := (codD_lt (dn := dnP P i) hv hr).2
    refine ⟨tak_ok hk, fun c => ?_⟩
    rw [tak_mem, hL]
    constructor
    · rintro ⟨q | q, hc⟩
      · exact Or.inl ⟨q, fun h => hc ((h1 c h).mp q)⟩
      · exact Or.inr q
    · rintro (q | q)
      · exact ⟨Or.inl q.1, fun h => q.2 (by rw [h]; exact hc32)⟩
      · exact ⟨Or.inr q, fun h => hK c q (by rw [h]; exact hc32)⟩
theorem mvU_mem (hr : r < 30) {L : LL} {K : Nat → Prop} (hk : okL (pPg P) L) (hL : ∀ c, c ∈ L.flatten ↔ (okV P A i c ∧ c % 32 ≠ r) ∨ K c) (hK : ∀ c, K c → c % 32 ≠ r) (hF : isEnt P B F r i) (hs : ∀ c, c % 32 ≠ r → (okV P B i c ↔ okV P A i c)) : okL (pPg P) (mvU P F r i L) ∧ ∀ c, c ∈ (mvU P F r i L).flatten ↔ okV P B i c ∨ K c := by
  unfold mvU
  rcases hF with ⟨e1, h1⟩ | ⟨v, hv, e1, h1⟩
  · rw [if_pos e1]
    refine ⟨hk, fun c => ?_⟩
    rw [hL]
    refine or_congr ⟨fun q => (hs c q.2).mpr q.1, fun q => ?_⟩ Iff.rfl
    have hc : c % 32 ≠ r := fun h => h1 c h q
    exact ⟨(hs c hc).mp q, hc⟩
  · have hne : ¬ F i = -1 := by rw [e1]; exact n_m1 (by omega)
    rw [if_neg hne, e1, nI_tn (by omega)]
    have hc32 := codD_lt (dn := dnP P i) hv hr
    have hno : codD (dnP P i) v r % 32 ∉ L.flatten.map (· % 32) := fun q => by
      obtain ⟨c, hc, e⟩ := List.mem_map.mp q
      rw [hc32.2] at e
      rcases (hL c).mp hc with q | q
      · exact q.2 e
      · exact hK c q e
    have hno2 : codD (dnP P i) v r ∉ L.flatten := fun q => hno (List.mem_map.mpr ⟨_, q, rfl⟩)
    refine ⟨put_ok hk (rows_lt hk (by rw [hc32.2]; exact hr) hno) hc32.1 (by rw [hc32.2]; exact hr) hno, fun c => ?_⟩
    rw [putL_mem hk hno2, hL]
    constructor
    · rintro (q | q | q)
      · have hc : c % 32 = r := by rw [q]; exact hc32.2
        exact Or.inl ((h1 c hc).mpr q)
      · exact Or.inl ((hs c q.2).mpr q.1)
      · exact Or.inr q
    · rintro (q | q)
      · by_cases hc : c % 32 = r
        · exact Or.inl ((h1 c hc).mp q)
        · exact Or.inr (Or.inl ⟨(hs c hc).mp q, hc⟩)
      · exact Or.inr (Or.inr q)
theorem mvL_mem (hr : r < 30) {L : LL} {K : Nat → Prop} (hk : okL (pPg P) L) (hL : ∀ c, c ∈ L.flatten ↔ okV P A i c ∨ K c) (hK : ∀ c, K c → c % 32 ≠ r) (hE : isEnt P A E r i) (hF : isEnt P B F r i) (hs : ∀ c, c % 32 ≠ r → (okV P B i c ↔ okV P A i c)) : okL (pPg P) (mvL P E F r i L) ∧ ∀ c, c ∈ (mvL P E F r i L).flatten ↔ okV P B i c ∨ K c := by
  unfold mvL
  by_cases e : E i = F i
  · rw [if_pos e]
    exact ⟨hk, fun c => by rw [hL, ent_eq hE hF e hs]⟩
  · rw [if_neg e]
    obtain ⟨t1, t2⟩ := mvT_mem hr hk hL hK hE
    exact mvU_mem hr t1 t2 hK hF hs
theorem sdT_rpl (hr : r < 30) {D : Nat → Prop} {xs : List Int32} (h : rpl P i D xs (okV P A i)) (hE : isEnt P A E r i) : rpl P i D (xs ++ sdT E r i) (fun c => okV P A i c ∧ c % 32 ≠ r) := by
  unfold sdT
  rcases hE with ⟨e1, h1⟩ | ⟨v, hv, e1, h1⟩
  · rw [if_pos e1, List.append_nil]
    exact rpl_r (fun c => ⟨fun q => ⟨q, fun hc => h1 c hc q⟩, fun q => q.1⟩) h
  · have hne : ¬ E i = -1 := by rw [e1]; exact n_m1 (by omega)
    rw [if_neg hne, e1, nI_tn (by omega)]
    obtain ⟨t1, t2, t3⟩ := tkN_ok hr hv
    have hc32 := (codD_lt (dn := dnP P i) hv hr).2
    have ec := sdC_eq (P := P) (i := i) hv t3
    refine rpl_r (fun c => ?_) (rpl_snoc t2 h (fun _ => by rw [ec]; exact (h1 _ hc32).mpr rfl) (fun q => absurd t1 q))
    unfold stp
    rw [if_pos t1, ec]
    refine and_congr_right (fun q => ⟨fun hc e => hc ((h1 c e).mp q), fun hc e => hc (by rw [e]; exact hc32)⟩)
theorem sdU_rpl (hr : r < 30) {D : Nat → Prop} {xs : List Int32} (h : rpl P i D xs (fun c => okV P A i c ∧ c % 32 ≠ r)) (hF : isEnt P B F r i) (hs : ∀ c, c % 32 ≠ r → (okV P B i c ↔ okV P A i c)) : rpl P i D (xs ++ sdU F r i) (okV P B i) := by
  unfold sdU
  rcases hF with ⟨e1, h1⟩ | ⟨v, hv, e1, h1⟩
  · rw [if_pos e1, List.append_nil]
    refine rpl_r (fun c => ⟨fun q => (hs c q.2).mpr q.1, fun q => ?_⟩) h
    have hc : c % 32 ≠ r := fun h => h1 c h q
    exact ⟨(hs c hc).mp q, hc⟩
  · have hne : ¬ F i = -1 := by rw [e1]; exact n_m1 (by omega)
    rw [if_neg hne, e1, nI_tn (by omega)]
    obtain ⟨t1, t2, t3⟩ := ptN_ok hr hv
    have hc32 := (codD_lt (dn := dnP P i) hv hr).2
    have ec := sdC_eq (P := P) (i := i) hv t3
    refine rpl_r (fun c => ?_) (rpl_snoc t2 h (fun q => absurd q t1) (fun _ c q => by rw [t3, show (1000 * r + v) / 1000 = r by omega]; exact q.2))
    unfold stp
    rw [if_neg t1, ec]
    constructor
    · rintro (q | q)
      · exact (hs c q.2).mpr q.1
      · exact (h1 c (by rw [q]; exact hc32)).mpr q
    · intro q
      by_cases hc : c % 32 = r
      · exact Or.inr ((h1 c hc).mp q)
      · exact Or.inl ⟨(hs c hc).mp q, hc⟩
theorem sdE_rpl (hr : r < 30) {D : Nat → Prop} {xs : List Int32} (h : rpl P i D xs (okV P A i)) (hE : isEnt P A E r i) (hF : isEnt P B F r i) (hs : ∀ c, c % 32 ≠ r → (okV P B i c ↔ okV P A i c)) : rpl P i D (xs ++ sdE E F r i) (okV P B i) := by
  unfold sdE
  by_cases e : E i = F i
  · rw [if_pos e, List.append_nil]
    exact rpl_r (fun c => (ent_eq hE hF e hs c).symm) h
  · rw [if_neg e, ← List.append_assoc]
    exact sdU_rpl hr (sdT_rpl hr h hE) hF hs
theorem sdE_len (E F : Nat → Int32) (r i : Nat) : (sdE E F r i).length = moreE E F i := by
  unfold sdE moreE sdT sdU
  split
  · rfl
  · rw [List.length_append]
    split <;> split <;> rfl
theorem sdE_row (hr : r < 30) (hE : isEnt P A E r i) (hF : isEnt P B F r i) {x : Int32} (hx : x ∈ sdE E F r i) : sdN x / 1000 = r := by
  unfold sdE at hx
  split at hx
  · exact absurd hx (by simp)
  · rcases List.mem_append.mp hx with q | q
    · unfold sdT at q
      rcases hE with ⟨e1, -⟩ | ⟨v, hv, e1, -⟩
      · rw [if_pos e1] at q; exact absurd q (by simp)
      · rw [if_neg (by rw [e1]; exact n_m1 (by omega)), List.mem_singleton, e1, nI_tn (by omega)] at q
        rw [q, (tkN_ok hr hv).2.2]; omega
    · unfold sdU at q
      rcases hF with ⟨e1, -⟩ | ⟨v, hv, e1, -⟩
      · rw [if_pos e1] at q; exact absurd q (by simp)
      · rw [if_neg (by rw [e1]; exact n_m1 (by omega)), List.mem_singleton, e1, nI_tn (by omega)] at q
        rw [q, (ptN_ok hr hv).2.2]; omega
theorem okV_eq (h1 : B.1 = A.1) (h2 : B.2.1 = A.2.1) {c : Nat} : okV P B i c ↔ okV P A i c := by
  obtain ⟨a, b, t⟩ := A
  obtain ⟨a', b', t'⟩ := B
  have e1 : a' = a := h1
  have e2 : b' = b := h2
  subst e1
  subst e2
  exact Iff.rfl
theorem okC_eq (h1 : B.1 = A.1) (h2 : B.2.1 = A.2.1) {c : Nat} : okC P B i c ↔ okC P A i c := by
  obtain ⟨a, b, t⟩ := A
  obtain ⟨a', b', t'⟩ := B
  have e1 : a' = a := h1
  have e2 : b' = b := h2
  subst e1
  subst e2
  exact Iff.rfl
theorem sum_congr {P : PP} {A B : AS} (h : ∀ i, i < pNi P → leftN (aC B) (aL B i) = leftN (aC A) (aL A i)) : sumL P B = sumL P A := by
  unfold sumL
  rw [List.map_congr_left (fun i hi => h i (List.mem_range.mp hi))]
/-- a move keeps the trees and the JOB as they must be; B is the STATE with its ROWS changed -/
theorem move_inv (hi : INV P A) (hr : r < 30) (hL : aL B = aL A) (hJ : aJ B = aJ A) (hC : aC B = aC A) (hch : bt (aC A) r = false) (hfit : fitA P B E F = true)
    (hs : ∀ i, i < pNi P → ∀ c, c % 32 ≠ r → (okV P B i c ↔ okV P A i c)) (hsC : ∀ i, i < pNi P → ∀ c, okC P B i c ↔ okC P A i c)
    (hE : ∀ i, i < pNi P → isEnt P A E r i) (hF : ∀ i, i < pNi P → isEnt P B F r i) (hkR : okR (aV B) (aM B) (aD B) (aC B)) (hkP : okP (aN B) (aS B) (aT B))
    (hP : invP B) (hO : onlyI P B (visA B)) (hOC : onlyI P B (aC B)) (hB : invB B) (hN : invN A → invN B) : INV P (moveA P B E F r) := by
  obtain ⟨⟨k1, k2⟩, -, iT, iN, iJ⟩ := hi
  have hmv := mv_n (P := P) (A := B) (E := E) (F := F) (r := r) (pNi P)
  obtain ⟨m1, m2, m3, m4⟩ := hmv
  have hni : pNi P ≤ 4 := k1.2.1
  have hat : ∀ k, isAtA (moveA P B E F r) k = isAtA A k := fun k => by
    show atO (aJ ((List.range (pNi P)).foldl (moveE P E F r) B)) k = _
    rw [m4, at_map, hJ]
    rfl
  have hatN : atN (aJ (moveA P B E F r)) = atN (aJ A) := by
    show atN (aJ ((List.range (pNi P)).foldl (moveE P E F r) B)) = _
    rw [m4, hJ]
    cases aJ A <;> rfl
  have eV : ∀ {i c : Nat}, okV P (moveA P B E F r) i c ↔ okV P B i c := fun {i c} => okV_eq m1 m2
  have eC : ∀ {i c : Nat}, okC P (moveA P B E F r) i c ↔ okC P B i c := fun {i c} => okC_eq m1 m2
  have hatB : ∀ k, isAtA B k = isAtA A k := fun k => by unfold isAtA; rw [hJ]
  have e1C : aC (moveA P B E F r) = aC B := by unfold aC; rw [show (moveA P B E F r).1 = B.1 from m1]
  have eLa : ∀ j, isAtA A j = true → aL (moveA P B E F r) j = aL A j := fun j hj => by
    show aL ((List.range (pNi P)).foldl (moveE P E F r) B) j = _
    rw [m3, if_neg (fun q => by rw [hatB, hj] at q; exact absurd q.2 (by decide)), hL]
  have eLn : ∀ j, isAtA A j = false → j < pNi P → aL (moveA P B E F r) j = mvL P E F r j (aL A j) := fun j hj hj2 => by
    show aL ((List.range (pNi P)).foldl (moveE P E F r) B) j = _
    rw [m3, if_pos ⟨hj2, by rw [hatB]; exact hj⟩, hL]
  have eLo : ∀ j, pNi P ≤ j → aL (moveA P B E F r) j = aL A j := fun j hj => by
    show aL ((List.range (pNi P)).foldl (moveE P E F r) B) j = _
    rw [m3, if_neg (fun q => by omega), hL]
  have tree : ∀ j, j < pNi P → isAtA A j = false → okL (pPg P) (mvL P E F r j (aL A j)) ∧ ∀ c, c ∈ (mvL P E F r j (aL A j)).flatten ↔ okV P B j c ∨ (okC P A j c ∧ atN (aJ A) < j) := fun j hj ha =>
    mvL_mem hr (k2.2.2.1 j (by omega)) (iT j hj ha) (fun c q e => by
      have := q.1.2.2
      rw [e, hch] at this
      exact absurd this (by decide)) (hE j hj) (hF j hj) (hs j hj)
  have eleft : ∀ j, j < pNi P → leftN (aC (moveA P B E F r)) (aL (moveA P B E F r) j) = leftN (aC A) (aL A j) := fun j hj => by
    rw [e1C, hC]
    cases ha : isAtA A j
    · rw [eLn j ha hj]
      refine left_congr (tree j hj ha).1 (k2.2.2.1 j (by omega)) (fun c hc => ?_)
      rw [(tree j hj ha).2, iT j hj ha]
      refine or_congr ⟨fun q => ?_, fun q => ?_⟩ Iff.rfl
      · have hcr : c % 32 ≠ r := fun e => by rw [e, hch] at hc; exact absurd hc (by decide)
        exact (hs j hj c hcr).mp q
      · have hcr : c % 32 ≠ r := fun e => by rw [e, hch] at hc; exact absurd hc (by decide)
        exact (hs j hj c hcr).mpr q
    · rw [eLa j ha]
  have hfit2 : ∀ J, aJ A = some J → jAt J < pNi P → (jSd J).length + moreE E F (jAt J) ≤ 40 := fun J hj ha => by
    unfold fitA at hfit
    rw [hJ, hj] at hfit
    simp only [Bool.or_eq_true, Bool.not_eq_true', decide_eq_false_iff_not, decide_eq_true_eq] at hfit
    rcases hfit with h | h
    · exact absurd ha h
    · exact h
  have eJ : ∀ J, aJ A = some J → aJ (moveA P B E F r) = some (jSdA J (if jAt J < pNi P then sdE E F r (jAt J) else [])) := fun J hj => by
    show aJ ((List.range (pNi P)).foldl (moveE P E F r) B) = _
    rw [m4, hJ, hj]
    rfl
  have esum : sumL P (moveA P B E F r) = sumL P A := sum_congr eleft
  have e1 : (moveA P B E F r).1 = B.1 := m1
  have e2 : (moveA P B E F r).2.1 = B.2.1 := m2
  refine ⟨⟨k1, ?_⟩, ⟨?_, ?_, ?_⟩, ?_, ?_, ?_⟩
  · refine ⟨?_, ?_, fun j hj => ?_, ?_⟩
    · unfold aV aM aD aC; rw [e1]; exact hkR
    · unfold aN aS aT; rw [e2]; exact hkP
    · by_cases hj2 : j < pNi P
      · cases ha : isAtA A j
        · rw [eLn j ha hj2]; exact (tree j hj2 ha).1
        · rw [eLa j ha]; exact k2.2.2.1 j hj
      · rw [eLo j (by omega)]; exact k2.2.2.1 j hj
    · cases hj : aJ A with
      | none =>
        have : aJ (moveA P B E F r) = none := by
          show aJ ((List.range (pNi P)).foldl (moveE P E F r) B) = _
          rw [m4, hJ, hj]; rfl
        rw [this]; trivial
      | some J =>
        rw [eJ J hj]
        have hk := k2.2.2.2
        rw [hj] at hk
        obtain ⟨q1, q2, q3, q4⟩ := hk
        refine ⟨q1, q2, ?_, q4⟩
        show (jSd J ++ _).length ≤ 40
        rw [List.length_append]
        by_cases ha : jAt J < pNi P
        · rw [if_pos ha, sdE_len]; exact hfit2 J hj ha
        · rw [if_neg ha]; simpa using q3
  · unfold invP aN aT visA aD aC aV; rw [e1, e2]; exact hP
  · unfold onlyI valA visA aD aC aV; rw [e1]; exact hO
  · unfold onlyI valA aC aV; rw [e1]; exact hOC
  · intro j hj ha c
    rw [hat] at ha
    rw [eLn j ha hj, (tree j hj ha).2, eV, eC, hatN, hsC j hj]
  · intro hn
    have hnA : aJ A = none := by
      cases hj : aJ A with
      | none => rfl
      | some J => rw [eJ J hj] at hn; exact absurd hn (by simp)
    have := hN (iN hnA)
    unfold invN aC aN aB at this ⊢
    rw [e1, e2]; exact this
  · intro J' hJ'
    cases hj : aJ A with
    | none =>
      have : aJ (moveA P B E F r) = none := by
        show aJ ((List.range (pNi P)).foldl (moveE P E F r) B) = _
        rw [m4, hJ, hj]; rfl
      rw [this] at hJ'; exact absurd hJ' (by simp)
    | some J =>
      rw [eJ J hj] at hJ'
      have := Option.some.inj hJ'
      subst this
      obtain ⟨j1, j2, j3, j4, j5⟩ := iJ J hj
      refine ⟨?_, fun ha => ?_, ?_, ?_, ?_⟩
      · rcases j1 with h | ⟨h1, h2, h3, h4⟩
        · exact Or.inl h
        · by_cases ha : jAt J < pNi P
          · exact Or.inl ha
          · refine Or.inr ⟨h1, ?_, h3, h4⟩
            show jSd J ++ _ = []
            rw [if_neg ha, h2]; rfl
      · have ha' : jAt J < pNi P := ha
        obtain ⟨⟨a1, a0⟩, a2, ⟨a3, a4, a5, a6⟩, a7, a8, a9, a10⟩ := j2 ha'
        have hatJ : isAtA A (jAt J) = true := by unfold isAtA atO; rw [hj]; simp
        have eLJ := eLa _ hatJ
        rw [if_pos ha']
        have eat : jAt (jSdA J (sdE E F r (jAt J))) = jAt J := rfl
        unfold invAt invSt
        rw [eat, eLJ, e1C, hC]
        refine ⟨⟨?_, fun x hx => ?_⟩, fun c hc hc2 => eC.mpr ((hsC _ ha' c).mpr (a2 c hc hc2)), ⟨a3, a4, fun c hc hc2 => eC.mpr ((hsC _ ha' c).mpr (a5 c hc hc2)), a6⟩, a7, a8, a9, a10⟩
        · refine rpl_r (fun c => eV.symm) (rpl_l (fun c => ?_) (sdE_rpl hr a1 (hE _ ha') (hF _ ha') (hs _ ha')))
          unfold baseA
          rw [eLJ, e1C, hC]
        · rcases List.mem_append.mp (show x ∈ jSd J ++ sdE E F r (jAt J) from hx) with q | q
          · exact a0 x q
          · rw [sdE_row hr (hE _ ha') (hF _ ha') q]; exact hch
      · rw [esum]; exact j3
      · unfold invB aN aB aS aT aC aV at hB ⊢
        rw [e1, e2]; exact hB
      · intro hre
        obtain ⟨q1, q2⟩ := j5 hre
        exact ⟨fun i hi hlt c hc => q1 i hi hlt c ((hsC i hi c).mp (eC.mp hc)), fun ha c hc => q2 ha c ((hsC _ ha c).mp (eC.mp hc))⟩
end MVI
