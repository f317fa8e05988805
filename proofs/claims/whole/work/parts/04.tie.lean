/-! THE TIE between the small machine's heap and the machine's: small addresses go to the machine's by φ; array tags to array classes by tA. -/
def mm_v (φ : Nat → Nat) : Value → Value
  | .ref a => .ref (φ a)
  | .int x => .int x
  | .long x => .long x
  | .float x => .float x
  | .double x => .double x
  | .null => .null
  | .retAddr x => .retAddr x
def mm_a (φ : Nat → Nat) (x : vp_A) : vp_A := (x.1, match x.2 with
  | .inl f => .inl f
  | .inr (.inl f) => .inr (.inl f)
  | .inr (.inr (.inl f)) => .inr (.inr (.inl f))
  | .inr (.inr (.inr (.inl f))) => .inr (.inr (.inr (.inl f)))
  | .inr (.inr (.inr (.inr f))) => .inr (.inr (.inr (.inr (fun i => (f i).map φ)))))
def mm_e (tA : Nat → ClassId) (φ : Nat → Nat) : mm_C → va_E
  | .inl x => .inl (tA x.1, mm_a φ x.2)
  | .inr o => .inr (o.1, o.2.map (mm_v φ))
/-- the script's cell: it is read only -/
def mm_ro : mm_C → Bool
  | .inl x => x.1 == 9
  | .inr _ => false
def mm_ty (tA : Nat → ClassId) : List (ClassId × FieldType) := [(tA 0, .int), (tA 1, .long), (tA 2, .byte), (tA 3, .boolean), (tA 4, .object RX8), (tA 5, .object RX2)]
/-- what may be written: the cells from z on -/
abbrev mm_A (z : Nat) : Nat → Prop := fun q => z ≤ q
def mm_R (D : va_G) (tA : Nat → ClassId) (φ : Nat → Nat) (z : Nat) (h : mm_H) (s : State) (H : Heap) : Prop :=
  (∀ n c, h n = some c → mm_ro c = false → va_at D vwCl (φ n, mm_e tA φ c) H ∧ z ≤ φ n) ∧
  (∀ n L xs, h n = some (.inl (9, L, .inl xs)) → va_X (φ n) L xs s H ∧ φ n < z) ∧
  (∀ n n' c c', h n = some c → h n' = some c' → φ n = φ n' → n = n') ∧
  (∃ N, ∀ n c, h n = some c → n < N) ∧ z ≤ s.heap.size
def mm_wf (tA : Nat → ClassId) (φ : Nat → Nat) (h : mm_H) (n : Nat) : Option (Nat × va_E) := match h n with
  | some c => if mm_ro c = true then none else some (φ n, mm_e tA φ c)
  | none => none
def mm_ws (tA : Nat → ClassId) (φ : Nat → Nat) (h : mm_H) (N : Nat) : va_W := (List.range N).filterMap (mm_wf tA φ h)
section TIE
variable {D : va_G} {tA : Nat → ClassId} {φ : Nat → Nat} {z : Nat} {h : mm_H} {s : State} {H : Heap} {N : Nat}
theorem mm_wf_some {n : Nat} {q : Nat × va_E} (hq : mm_wf tA φ h n = some q) : ∃ c, h n = some c ∧ mm_ro c = false ∧ q = (φ n, mm_e tA φ c) := by
  unfold mm_wf at hq
  cases hc : h n with
  | none => rw [hc] at hq; cases hq
  | some c =>
    rw [hc] at hq
    dsimp only at hq
    by_cases hr : mm_ro c = true
    · rw [if_pos hr] at hq; cases hq
    · rw [if_neg hr] at hq
      exact ⟨c, rfl, by simpa using hr, (Option.some.inj hq).symm⟩
theorem mm_wf_of {n : Nat} {c : mm_C} (hc : h n = some c) (hr : mm_ro c = false) : mm_wf tA φ h n = some (φ n, mm_e tA φ c) := by
  unfold mm_wf
  rw [hc]
  simp [hr]
theorem mm_fm_idx {α : Type} (g : Nat → Option α) : ∀ (L : List Nat), L.Nodup → ∀ (i j n n' : Nat) (q q' : α), (L.filterMap g)[i]? = some q → (L.filterMap g)[j]? = some q' → n ∈ L → n' ∈ L → g n = some q → g n' = some q' → (∀ m ∈ L, g m = some q → m = n) → (∀ m ∈ L, g m = some q' → m = n') → n = n' → i = j := by
  intro L
  induction L with
  | nil => intro _ i j n n' q q' h1; simp at h1
  | cons a L ih =>
    intro hnd i j n n' q q' h1 h2 hn hn' e1 e2 u1 u2 hnn
    subst hnn
    have hqq : q = q' := Option.some.inj (e1.symm.trans e2)
    subst hqq
    obtain ⟨ha, hnd'⟩ := List.nodup_cons.mp hnd
    rw [List.filterMap_cons] at h1 h2
    cases hga : g a with
    | none =>
      rw [hga] at h1 h2
      have hna : n ≠ a := fun e => by rw [e, hga] at e1; cases e1
      have hnL : n ∈ L := (List.mem_cons.mp hn).resolve_left hna
      exact ih hnd' i j n n q q h1 h2 hnL hnL e1 e1 (fun m hm => u1 m (List.mem_cons_of_mem _ hm)) (fun m hm => u1 m (List.mem_cons_of_mem _ hm)) rfl
    | some b =>
      rw [hga] at h1 h2
      by_cases hna : n = a
      · subst hna
        have key : ∀ k, ((b :: L.filterMap g))[k]? = some q → k = 0 := by
          intro k hk
          cases k with
          | zero => rfl
          | succ k =>
            rw [List.getElem?_cons_succ] at hk
            obtain ⟨m, hm, hgm⟩ := List.mem_filterMap.mp (List.mem_of_getElem? hk)
            have := u1 m (List.mem_cons_of_mem _ hm) hgm
            subst this
            exact absurd hm ha
        rw [key i h1, key j h2]
      · have hnL : n ∈ L := (List.mem_cons.mp hn).resolve_left hna
        have key : ∀ k, ((b :: L.filterMap g))[k]? = some q → ∃ k', k = k' + 1 ∧ (L.filterMap g)[k']? = some q := by
          intro k hk
          cases k with
          | zero =>
            have hbq : b = q := by simpa using hk
            exact absurd (u1 a List.mem_cons_self (by rw [hga, hbq])).symm hna
          | succ k => exact ⟨k, rfl, by simpa using hk⟩
        obtain ⟨i', rfl, h1'⟩ := key i h1
        obtain ⟨j', rfl, h2'⟩ := key j h2
        rw [ih hnd' i' j' n n q q h1' h2' hnL hnL e1 e1 (fun m hm => u1 m (List.mem_cons_of_mem _ hm)) (fun m hm => u1 m (List.mem_cons_of_mem _ hm)) rfl]
theorem mm_ws_mem {k : Nat} {q : Nat × va_E} (hk : (mm_ws tA φ h N)[k]? = some q) : ∃ n c, n < N ∧ h n = some c ∧ mm_ro c = false ∧ q = (φ n, mm_e tA φ c) := by
  obtain ⟨n, hn, hg⟩ := List.mem_filterMap.mp (List.mem_of_getElem? hk)
  obtain ⟨c, h1, h2, h3⟩ := mm_wf_some hg
  exact ⟨n, c, List.mem_range.mp hn, h1, h2, h3⟩
theorem mm_ws_at {n : Nat} {c : mm_C} (hn : n < N) (hc : h n = some c) (hr : mm_ro c = false) : ∃ k : Nat, (mm_ws tA φ h N)[k]? = some (φ n, mm_e tA φ c) :=
  List.getElem?_of_mem (List.mem_filterMap.mpr ⟨n, List.mem_range.mpr hn, mm_wf_of hc hr⟩)
theorem mm_ws_P (hR : mm_R D tA φ z h s H) : va_P D vwCl (mm_ws tA φ h N) H := by
  intro k q hk
  obtain ⟨n, c, -, h1, h2, rfl⟩ := mm_ws_mem hk
  exact (hR.1 n c h1 h2).1
theorem mm_ws_inj (hR : mm_R D tA φ z h s H) {i j : Nat} {x y : Nat × va_E} (hi : (mm_ws tA φ h N)[i]? = some x) (hj : (mm_ws tA φ h N)[j]? = some y) (he : x.1 = y.1) : i = j := by
  obtain ⟨n, c, hn, h1, h2, rfl⟩ := mm_ws_mem hi
  obtain ⟨n', c', hn', h1', h2', rfl⟩ := mm_ws_mem hj
  have hnn : n = n' := hR.2.2.1 n n' c c' h1 h1' he
  have uq : ∀ (n : Nat) (c : mm_C), h n = some c → ∀ m ∈ List.range N, mm_wf tA φ h m = some (φ n, mm_e tA φ c) → m = n := by
    intro n c hc m _ hm
    obtain ⟨c2, g1, _, g3⟩ := mm_wf_some hm
    exact hR.2.2.1 m n c2 c g1 hc (congrArg Prod.fst g3).symm
  exact mm_fm_idx (mm_wf tA φ h) (List.range N) List.nodup_range i j n n' _ _ hi hj (List.mem_range.mpr hn) (List.mem_range.mpr hn') (mm_wf_of h1 h2) (mm_wf_of h1' h2') (uq n c h1) (uq n' c' h1') hnn
theorem mm_ws_D (hR : mm_R D tA φ z h s H) : va_D (mm_A z) (mm_ws tA φ h N) := by
  refine ⟨fun i j x y hi hj he => mm_ws_inj hR hi hj he, fun k q hk => ?_⟩
  obtain ⟨n, c, -, h1, h2, rfl⟩ := mm_ws_mem hk
  exact (hR.1 n c h1 h2).2
/-- behind a store into one cell -/
theorem mm_R_set {a k : Nat} {c0 c1 : mm_C} {H1 : Heap} {locs locs1 : List Loc} (hR : mm_R D tA φ z h s H) (hN : ∀ n c, h n = some c → n < N) (ha : h a = some c0) (hr0 : mm_ro c0 = false) (hr1 : mm_ro c1 = false) (hk : (mm_ws tA φ h N)[k]? = some (φ a, mm_e tA φ c0))
    (hS : va_S (mm_A z) s.heap H locs) (hP : va_P D vwCl ((mm_ws tA φ h N).set k (φ a, mm_e tA φ c1)) H1) (hS1 : va_S (mm_A z) s.heap H1 locs1) : mm_R D tA φ z (mm_up h a c1) s H1 := by
  have hlen : k < (mm_ws tA φ h N).length := (List.getElem?_eq_some_iff.mp hk).1
  refine ⟨fun n c hc hr => ?_, fun n L xs hc => ?_, fun n n' c c' hc hc' he => ?_, ⟨N, fun n c hc => ?_⟩, hR.2.2.2.2⟩
  · by_cases hna : n = a
    · subst hna
      simp only [mm_up, if_pos] at hc
      cases hc
      exact ⟨hP k _ (by rw [List.getElem?_set_self hlen]), (hR.1 n c0 ha hr0).2⟩
    · simp only [mm_up, if_neg hna] at hc
      obtain ⟨j, hj⟩ := mm_ws_at (tA := tA) (φ := φ) (hN n c hc) hc hr
      have hjk : k ≠ j := by
        intro e
        subst e
        have := congrArg Prod.fst (Option.some.inj (hk.symm.trans hj))
        exact hna (hR.2.2.1 n a c c0 hc ha this.symm)
      exact ⟨hP j _ (by rw [List.getElem?_set_ne hjk]; exact hj), (hR.1 n c hc hr).2⟩
  · by_cases hna : n = a
    · subst hna
      simp only [mm_up, if_pos] at hc
      cases hc
      simp [mm_ro] at hr1
    · simp only [mm_up, if_neg hna] at hc
      obtain ⟨hX, hlt⟩ := hR.2.1 n L xs hc
      have hb := Nat.lt_of_lt_of_le hlt hR.2.2.2.2
      have hnA : ¬ mm_A z (φ n) := Nat.not_le.mpr hlt
      refine ⟨hX.kept ?_, hlt⟩
      rw [hS1.2.1 _ hb hnA, hS.2.1 _ hb hnA]
  · have f : ∀ n c, mm_up h a c1 n = some c → ∃ c2, h n = some c2 := by
      intro n c hc
      by_cases hna : n = a
      · exact ⟨c0, by rw [hna]; exact ha⟩
      · simp only [mm_up, if_neg hna] at hc
        exact ⟨c, hc⟩
    obtain ⟨c2, g2⟩ := f n c hc
    obtain ⟨c3, g3⟩ := f n' c' hc'
    exact hR.2.2.1 n n' c2 c3 g2 g3 he
  · by_cases hna : n = a
    · rw [hna]; exact hN a c0 ha
    · simp only [mm_up, if_neg hna] at hc
      exact hN n c hc
theorem mm_R.moved {u : State} (hvm : s.vm.Alike u.vm) (hz : z ≤ u.heap.size) (hR : mm_R D tA φ z h s H) : mm_R D tA φ z h u H :=
  ⟨hR.1, fun n L xs hc => ⟨(hR.2.1 n L xs hc).1.moved hvm, (hR.2.1 n L xs hc).2⟩, hR.2.2.1, hR.2.2.2.1, hz⟩
end TIE
/-- the words of the tables that last -/
def mm_tbl : List Cond := lw_tbl.filter goodWord
theorem mm_tbl_in {w : Cond} (i : Nat) (h : lw_tbl[i]? = some w) (hg : goodWord w = true) : w ∈ mm_tbl := List.mem_filter.mpr ⟨List.mem_of_getElem? h, hg⟩
theorem mm_tbl_good : ∀ w ∈ mm_tbl, (w.onTables && w.keeps) = true ∨ ∃ ty, w = .arrayClass ty := fun _ hw => good_of_word (List.mem_filter.mp hw).2
/-- the links to nest mates -/
def mm_nest : List Cond := [.methodLinkNest "LeafSweep$Reader" 11 ⟨"LeafSweep$Plan", "<init>", "()V"⟩ "LeafSweep", .methodLinkNest "LeafSweep$Plan" 33 ⟨"LeafSweep$Where", "<init>", "()V"⟩ "LeafSweep", .methodLinkNest "LeafSweep$Reader" 20 ⟨"LeafSweep$Lines", "<init>", "()V"⟩ "LeafSweep", .methodLinkNest "LeafSweep" 27 ⟨"LeafSweep$Bench", "<init>", "()V"⟩ "LeafSweep", .methodLinkNest "LeafSweep" 56 ⟨"LeafSweep$Plan", "<init>", "()V"⟩ "LeafSweep", .methodLinkNest "LeafSweep" 66 ⟨"LeafSweep$Lines", "<init>", "()V"⟩ "LeafSweep", .methodLinkNest "LeafSweep$State" 11 ⟨"LeafSweep$Rows", "<init>", "()V"⟩ "LeafSweep", .methodLinkNest "LeafSweep$State" 20 ⟨"LeafSweep$Points", "<init>", "()V"⟩ "LeafSweep", .methodLinkNest "LeafSweep$State" 33 ⟨"LeafSweep$Job", "<init>", "()V"⟩ "LeafSweep", .methodLinkNest "LeafSweep$Job" 20 ⟨"LeafSweep$Leaves", "<init>", "()V"⟩ "LeafSweep", .methodLinkNest "LeafSweep$State" 59 ⟨"LeafSweep$Leaves", "<init>", "()V"⟩ "LeafSweep", .methodLinkNest "LeafSweep$State" 231 ⟨"LeafSweep", "areValues", "(III)Z"⟩ "LeafSweep", .methodLinkNest "LeafSweep$State" 263 ⟨"LeafSweep", "isValue", "(I)Z"⟩ "LeafSweep"]
theorem mm_nest_form : ∀ w ∈ mm_nest, ∃ (a : String) (i : Nat) (x : MethodName) (h : String), w = .methodLinkNest a i x h := by
  intro w hw
  simp only [mm_nest, List.mem_cons, List.not_mem_nil, or_false] at hw
  rcases hw with rfl | rfl | rfl | rfl | rfl | rfl | rfl | rfl | rfl | rfl | rfl | rfl | rfl <;> exact ⟨_, _, _, _, rfl⟩
/-- what the tables say beside the words that last -/
def mm_K (D : va_G) (tA : Nat → ClassId) (U : State) : Prop := va_K D vwCl (mm_ty tA) U ∧ ∀ w ∈ mm_nest, va_Nw w U
theorem mm_K.warm {D : va_G} {tA : Nat → ClassId} {s U : State} (hW : s.WarmedH U.vm) (h : mm_K D tA s) : mm_K D tA U := by
  refine ⟨va_K.moved hW.alike h.1, fun w hw => ?_⟩
  obtain ⟨a, i, x, ho, rfl⟩ := mm_nest_form w hw
  exact va_Nw.warmM hW (h.2 _ hw)
theorem mm_K.same {D : va_G} {tA : Nat → ClassId} {s U : State} (hv : s.vm = U.vm) (h : mm_K D tA s) : mm_K D tA U := by
  refine ⟨va_K.moved (by rw [← hv]; exact Vm.Alike.refl _) h.1, fun w hw => ?_⟩
  obtain ⟨a, i, x, ho, rfl⟩ := mm_nest_form w hw
  exact va_Nw.same rfl hv (h.2 _ hw)
