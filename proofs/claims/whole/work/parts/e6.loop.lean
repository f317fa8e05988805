/-! THE LAW'S LOOP -/
theorem law_cut : p_law.2.2.2.2.2.1.all (fun q => decide (q.2 = [0, 1, 2, 3, 4])) = true := by decide +kernel
theorem law_ix {pc : Nat} {ix : List Nat} (h : mm_lk p_law.2.2.2.2.2.1 pc = some ix) : ix = [0, 1, 2, 3, 4] := of_decide_eq_true (List.all_eq_true.mp law_cut (pc, ix) (mm_lk_mem h))
theorem law_cd : ∀ q ∈ p_law.1, mm_okI code 7 p_law q = true := by
  have h : p_law.1.all (mm_okI code 7 p_law) = true := by
    show (lc_0 ++ (lc_1 ++ (lc_2 ++ (lc_3 ++ (lc_4 ++ (lc_5 ++ (lc_6 ++ (lc_7 ++ (lc_8 ++ (lc_9 ++ (lc_10 ++ (lc_11 ++ (lc_12 ++ (lc_13 ++ (lc_14 ++ (lc_15 ++ (lc_16 ++ (lc_17 ++ (lc_18 ++ (lc_19 ++ (lc_20 ++ (lc_21)))))))))))))))))))))).all _ = true
    simp only [List.all_append, lc_0_ok, lc_1_ok, lc_2_ok, lc_3_ok, lc_4_ok, lc_5_ok, lc_6_ok, lc_7_ok, lc_8_ok, lc_9_ok, lc_10_ok, lc_11_ok, lc_12_ok, lc_13_ok, lc_14_ok, lc_15_ok, lc_16_ok, lc_17_ok, lc_18_ok, lc_19_ok, lc_20_ok, lc_21_ok, Bool.and_self]
  exact fun q hq => List.all_eq_true.mp h q hq
section LOP
variable {p : Program} {l : Launch} {e : Env} {s : State} {m : MethodId} {args : Array Value} {below : List Frame} {meth : Method} {c : Code} {cells slots : Nat} {Q : State → Prop}
variable {D : va_G} {tA : Nat → ClassId} {φ : Nat → Nat} {z : Nat}
/-- from one cut of the law to the next -/
theorem law_go (X : mm_X p s m args c code RL 7 D tA) (hf : cells ≤ room_1.cells ∧ slots ≤ room_1.slots) {pc pc' : Nat} {vs vs' st st' : List Value} {h h' : mm_H} (hv : mm_one p_law kNon kOne pc vs st h = some (pc', vs', st', h'))
    (k : mm_Z p l e room_1 s m args below meth c cells slots Q D tA φ z 7 pc' (List.zip [0, 1, 2, 3, 4] vs') st' h') : mm_Z p l e room_1 s m args below meth c cells slots Q D tA φ z 7 pc (List.zip [0, 1, 2, 3, 4] vs) st h := by
  cases hix : mm_lk p_law.2.2.2.2.2.1 pc with
  | none =>
    unfold mm_one at hv
    rw [hix] at hv
    cases hv
  | some ix =>
    have h2 := mm_one_ok (p := p) (l := l) (e := e) (R := room_1) (below := below) (meth := meth) (Q := Q) (φ := φ) (z := z) X mm_cls_ok mm_sys_ok (lawP_ok l) ⟨by decide, by decide⟩ hf law_cd (kr := kNon) (kc := kOne) (res := (pc', vs', st', h')) (fun r h hh => by cases hh) (fun pc vs st h ix hi hh => by
      cases hh
      rw [law_ix hi]
      exact k) hix hv
    rwa [law_ix hix] at h2
/-- the law's end -/
theorem law_end {b : Nat} (X : mm_X p s m #[Value.ref b] c code RL 7 D tA) (hr : meth.sig.returnType = ret) (hlocks : meth.locks = false) (hz : s.heap.size = z) (hf : cells ≤ room_1.cells ∧ slots ≤ room_1.slots) {G : GG} {L i : Nat} {xs : Nat → Int32} (h : scr G L xs) (hi : L < i + 7) (h2 : i ≤ L + 7) :
    mm_Z p l e room_1 s m #[Value.ref b] below meth c cells slots (lw_Z below #[Value.ref b] s) D tA φ z 7 23 (List.zip [0, 1, 2, 3, 4] (lvs i)) [] (hp G) := by
  have hv := l_end h hi h2 (ρ := Option Value × mm_H) (fun r h => some (r, h)) (fun _ _ _ _ => none)
  cases hix : mm_lk p_law.2.2.2.2.2.1 23 with
  | none =>
    unfold mm_one at hv
    rw [hix] at hv
    cases hv
  | some ix =>
    have h3 := mm_one_ok (p := p) (l := l) (e := e) (R := room_1) (below := below) (meth := meth) (Q := lw_Z below #[Value.ref b] s) (φ := φ) (z := z) X mm_cls_ok mm_sys_ok (lawP_ok l) ⟨by decide, by decide⟩ hf law_cd (kr := fun r h => some (r, h)) (kc := fun _ _ _ _ => none) (res := (some (.int 1), hp G)) (fun r h hh => by
      cases hh
      intro H locs ls pc hR hS hcase
      rcases hcase with ⟨c1, -, -⟩ | ⟨x, c1, c2, -⟩
      · cases c1
      · cases c1
        refine va_forget (fun q hq => by rw [hz]; exact hS.2.2 q hq) ?_
        exact W.widen (k := 601024) (n := 7293034) hf.1 hf.2 (lw_ret X.1 X.2.1 hr hlocks c2)) (fun pc vs st h ix hi hh => by cases hh) hix hv
    rwa [law_ix hix] at h3
/-- the loop -/
theorem law_loop {b : Nat} (X : mm_X p s m #[Value.ref b] c code RL 7 D tA) (hr : meth.sig.returnType = ret) (hlocks : meth.locks = false) (hz : s.heap.size = z) {L : Nat} {xs : Nat → Int32}
    (hrank : ∀ (cells slots : Nat) (G : GG) (i : Nat), cells + 1 ≤ room_1.cells → slots + 6 ≤ room_1.slots → FW G → scr G L xs → i + 7 ≤ L → (∀ G', FW G' → scr G' L xs → mm_Z p l e room_1 s m #[Value.ref b] below meth c (cells + 1) (slots + 6) (lw_Z below #[Value.ref b] s) D tA φ z 7 2034 (List.zip [0, 1, 2, 3, 4] (lvs i)) [] (hp G')) →
      mm_Z p l e room_1 s m #[Value.ref b] below meth c cells slots (lw_Z below #[Value.ref b] s) D tA φ z 7 1037 (List.zip [0, 1, 2, 3, 4] (lvs i)) [] (hp G)) :
    ∀ (n i cells slots : Nat) (G : GG), FW G → scr G L xs → i ≤ L + 7 → L + 7 ≤ i + 7 * n → cells + n ≤ 601024 → slots + 6 * n ≤ 7293034 →
      mm_Z p l e room_1 s m #[Value.ref b] below meth c cells slots (lw_Z below #[Value.ref b] s) D tA φ z 7 23 (List.zip [0, 1, 2, 3, 4] (lvs i)) [] (hp G) := by
  have rc : room_1.cells = 601024 := rfl
  have rs : room_1.slots = 7293034 := rfl
  intro n
  induction n with
  | zero =>
    intro i cells slots G F hs h1 h2 h3 h4
    exact law_end X hr hlocks hz ⟨by omega, by omega⟩ hs (by omega) h1
  | succ n ih =>
    intro i cells slots G F hs h1 h2 h3 h4
    by_cases hi : i + 7 ≤ L
    · have hf : cells ≤ room_1.cells ∧ slots ≤ room_1.slots := ⟨by omega, by omega⟩
      have back : ∀ (cells slots : Nat) (G' : GG), FW G' → scr G' L xs → cells + n ≤ 601024 → slots + 6 * n ≤ 7293034 → mm_Z p l e room_1 s m #[Value.ref b] below meth c cells slots (lw_Z below #[Value.ref b] s) D tA φ z 7 2034 (List.zip [0, 1, 2, 3, 4] (lvs i)) [] (hp G') := fun cells slots G' F' hs' g1 g2 =>
        law_go X ⟨by omega, by omega⟩ (l_back (i := i) kNon kOne (hp G')) (ih (i + 7) cells slots G' F' hs' (by omega) (by omega) g1 g2)
      obtain ⟨pc, e1, hc⟩ := l_head F hs hi kNon kOne
      refine law_go X hf e1 ?_
      rcases hc with (rfl | ⟨G', t1, t2, t3, -⟩) | rfl
      · exact back cells slots G F hs (by omega) (by omega)
      · exact law_go X hf t1 (back cells slots G' t2 t3 (by omega) (by omega))
      · exact hrank cells slots G i (by omega) (by omega) F hs hi (fun G' F' hs' => back (cells + 1) (slots + 6) G' F' hs' (by omega) (by omega))
    · exact law_end X hr hlocks hz ⟨by omega, by omega⟩ hs (by omega) h1
end LOP
