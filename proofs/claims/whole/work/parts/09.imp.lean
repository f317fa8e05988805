section IMP
variable {p : Program} {l : Launch} {e : Env} {R : Room} {s : State} {m : MethodId} {args : Array Value} {below : List Frame} {meth : Method} {c : Code} {cells slots : Nat} {Q : State → Prop}
variable {D : va_G} {tA : Nat → ClassId} {φ : Nat → Nat} {z : Nat} {cc : ByteArray} {own : String} {nL n0 : Nat}
/-- a stretch between cuts -/
theorem mm_in_ok {ρ : Type} {P : mm_P} (X : mm_X p s m args c cc own nL D tA) (hcls : mm_cls) (hsys : mm_sys) (hP : mm_Pok l own n0 P) (hRo : n0 ≤ R.frames ∧ 40 * n0 ≤ R.locals) (hf : cells ≤ R.cells ∧ slots ≤ R.slots) (hcd : ∀ q ∈ P.1, mm_okI cc nL P q = true)
    {kr : Option Value → mm_H → Option ρ} {kc : mm_G ρ} {res : ρ} (hkr : ∀ r h, kr r h = some res → mm_Zr p l e R s m args below meth c cells slots Q D tA φ z cc P.2.2.2.2.2.2.2 r h) (hkc : ∀ pc lv st h, kc pc lv st h = some res → mm_Z p l e R s m args below meth c cells slots Q D tA φ z nL pc lv st h) :
    ∀ (N : Nat) (pc : Nat) (cs : List mm_I) (lv : mm_L) (st : List Value) (h : mm_H), (∀ q r, cs = q :: r → q.1 = pc ∧ q ∈ P.1 ∧ ∀ x ∈ r, x ∈ P.1) → mm_in P kr kc N cs lv st h = some res → mm_Z p l e R s m args below meth c cells slots Q D tA φ z nL pc lv st h := by
  intro N
  induction N with
  | zero => intro pc cs lv st h _ hv; cases hv
  | succ N ih =>
    intro pc cs lv st h hcs hv
    cases cs with
    | nil => cases hv
    | cons q r =>
      obtain ⟨rfl, h2, h3⟩ := hcs q r rfl
      refine mm_st_ok X hcls hsys hP hRo hf hkr (fun pc' lv' st' h' hgo => ?_) (hcd q h2) hv
      split at hgo
      · exact hkc _ _ _ _ hgo
      · exact ih pc' _ lv' st' h' (fun q' r' e' => mm_seek_mem h3 e') hgo
theorem mm_pk_zip {lv : mm_L} : ∀ (ix : List Nat) (vs : List Value), mm_pk lv ix = some vs → vs.length = ix.length ∧ ∀ q ∈ List.zip ix vs, q ∈ lv := by
  intro ix
  induction ix with
  | nil =>
    intro vs h
    cases h
    exact ⟨rfl, fun q hq => by cases hq⟩
  | cons i r ih =>
    intro vs h
    unfold mm_pk at h
    split at h
    · rename_i v vs' h1 h2
      cases h
      obtain ⟨h3, h4⟩ := ih vs' h2
      refine ⟨by simp [h3], fun q hq => ?_⟩
      rw [List.zip_cons_cons] at hq
      rcases List.mem_cons.mp hq with rfl | hq
      · exact mm_lk_mem h1
      · exact h4 q hq
    · cases h
theorem mm_lv_less {ls : Array Slot} {lv lv' : mm_L} (hl : lv_has ls nL (lv.map fun q => (q.1, mm_v φ q.2))) (h : ∀ q ∈ lv', q ∈ lv) : lv_has ls nL (lv'.map fun q => (q.1, mm_v φ q.2)) :=
  ⟨hl.1, hl.2.1, fun q hq => by
    obtain ⟨x, hx, rfl⟩ := List.mem_map.mp hq
    exact hl.2.2 _ (List.mem_map.mpr ⟨x, h x hx, rfl⟩)⟩
/-- a method from a cut on -/
theorem mm_run_ok {P : mm_P} (X : mm_X p s m args c cc own nL D tA) (hcls : mm_cls) (hsys : mm_sys) (hP : mm_Pok l own n0 P) (hRo : n0 ≤ R.frames ∧ 40 * n0 ≤ R.locals) (hf : cells ≤ R.cells ∧ slots ≤ R.slots) (hcd : ∀ q ∈ P.1, mm_okI cc nL P q = true) {res : Option Value × mm_H}
    (hkr : mm_Zr p l e R s m args below meth c cells slots Q D tA φ z cc P.2.2.2.2.2.2.2 res.1 res.2) : ∀ (f : Nat) (pc : Nat) (vs st : List Value) (h : mm_H), mm_run P f pc vs st h = some res → ∃ ix, mm_lk P.2.2.2.2.2.1 pc = some ix ∧ mm_Z p l e R s m args below meth c cells slots Q D tA φ z nL pc (List.zip ix vs) st h := by
  intro f
  induction f with
  | zero => intro pc vs st h hv; cases hv
  | succ f ih =>
    intro pc vs st h hv
    unfold mm_run at hv
    split at hv
    · cases hv
    · rename_i ix hix
      refine ⟨ix, hix, mm_in_ok X hcls hsys hP hRo hf hcd (fun r h' e => ?_) (fun pc' lv' st' h' hgo => ?_) 4000 pc _ _ _ _ (fun q r e => mm_find_mem e) hv⟩
      · cases e; exact hkr
      · split at hgo
        · cases hgo
        · rename_i ix' hix'
          split at hgo
          · cases hgo
          · rename_i vs' hvs'
            obtain ⟨ix2, h1, h2⟩ := ih pc' vs' st' h' hgo
            cases hix'.symm.trans h1
            exact fun H locs ls hR hS hl => h2 H locs ls hR hS (mm_lv_less hl (mm_pk_zip ix' vs' hvs').2)
end IMP
/-- where the arguments lie at a method's entry -/
def mm_ix : Nat → List Value → List Nat
  | _, [] => []
  | i, v :: vs => i :: mm_ix (if v.category = 2 then i + 2 else i + 1) vs
theorem mm_ix_zip : ∀ (vs : List Value) (i : Nat), List.zip (mm_ix i vs) vs = lv_args i vs := by
  intro vs
  induction vs with
  | nil => intro i; rfl
  | cons v vs ih =>
    intro i
    simp only [mm_ix, lv_args, List.zip_cons_cons, ih]
theorem mm_args_map (φ : Nat → Nat) : ∀ (vs : List Value) (i : Nat), lv_args i (vs.map (mm_v φ)) = (lv_args i vs).map fun q => (q.1, mm_v φ q.2) := by
  intro vs
  induction vs with
  | nil => intro i; rfl
  | cons v vs ih =>
    intro i
    have e1 : (mm_v φ v).category = v.category := mm_v_cat v
    simp only [List.map_cons, lv_args, e1, ih]
theorem mm_sl_map (φ : Nat → Nat) (vs : List Value) : (lg_sl (vs.map (mm_v φ))).length = (lg_sl vs).length := by
  induction vs with
  | nil => rfl
  | cons v vs ih =>
    have e1 : (mm_v φ v).category = v.category := mm_v_cat v
    have e2 : ∀ (w : Value) (ws : List Value), (lg_sl (w :: ws)).length = (if w.category = 2 then 2 else 1) + (lg_sl ws).length := by
      intro w ws
      unfold lg_sl
      rw [List.flatMap_cons, List.length_append]
      split <;> simp
    rw [List.map_cons, e2, e2, e1, ih]
def mm_rtok (rt : Nat) (ret : Option FieldType) : Bool := match rt, ret with
  | 0, none => true
  | 1, some .boolean => true
  | 2, some .int => true
  | _, _ => false
/-- where arguments of these categories lie -/
def mm_ixc : Nat → List Nat → List Nat
  | _, [] => []
  | i, k :: ks => i :: mm_ixc (if k = 2 then i + 2 else i + 1) ks
theorem mm_ixc_of : ∀ (vs : List Value) (i : Nat), mm_ix i vs = mm_ixc i (mm_cats vs) := by
  intro vs
  induction vs with
  | nil => intro i; rfl
  | cons v vs ih =>
    intro i
    simp only [mm_ix, mm_cats, List.map_cons, mm_ixc, ih]
theorem mm_sl_cats : ∀ (vs : List Value), (lg_sl vs).length = (mm_cats vs).sum := by
  intro vs
  induction vs with
  | nil => rfl
  | cons v vs ih =>
    have e2 : (lg_sl (v :: vs)).length = (if v.category = 2 then 2 else 1) + (lg_sl vs).length := by
      unfold lg_sl
      rw [List.flatMap_cons, List.length_append]
      split <;> simp
    rw [e2, ih]
    simp only [mm_cats, List.map_cons, List.sum_cons]
    rcases lv_cat v with h | h <;> simp [h]
/-- a method's program, held against the method's own bytes -/
theorem mm_imp (l : Launch) {y : MethodName} {bytes : ByteArray} {maxL : Nat} {ret : Option FieldType} {n0 : Nat} {P : mm_P} {f : mm_F} (hcls : mm_cls) (hsys : mm_sys) (hy : plainName y.cls = true) (hP : mm_Pok l y.cls n0 P) (hcd : P.1.all (mm_okI bytes maxL P) = true) (hrt : mm_rtok P.2.2.2.2.2.2.2 ret = true)
    {cats : List Nat} (hf : ∀ as h r, f as h = some r → mm_cats as = cats ∧ mm_run P (mm_fu + 1) 0 as [] h = some r) (hc1 : mm_lk P.2.2.2.2.2.1 0 = some (mm_ixc 0 cats)) (hc2 : cats.sum ≤ maxL) : mm_Imp l y bytes maxL ret n0 f := by
  intro D tA φ z as h r h' hv
  refine Met.ofW (cc := bytes) (maxL := maxL) (ret := ret) hy rfl ?_
  intro p e s m args below meth c s₁ B hml hpre
  obtain ⟨rfl, hR, hK⟩ := hpre
  have hts0 := atoms_spec (ws := Cond.code y bytes maxL ret :: mm_tbl) B.pre
  have hown : s.vm.findClass y.cls = some m.cls := findClass_of_methodNamed B.named
  have X : mm_X p s m (as.map (mm_v φ)).toArray c bytes y.cls maxL D tA := ⟨B.exec, B.bytes, hml, hown, fun w hw => hts0 w (List.mem_cons_of_mem _ hw), hK⟩
  have hlocks := B.notSynchronized
  have hr := B.returns
  obtain ⟨hcats, hrun⟩ := hf _ _ _ hv
  have hix1 : mm_lk P.2.2.2.2.2.1 0 = some (mm_ix 0 as) := by rw [mm_ixc_of, hcats]; exact hc1
  have hix2 : (lg_sl as).length ≤ maxL := by rw [mm_sl_cats, hcats]; exact hc2
  have hS : va_S (mm_A z) s.heap s.heap [] := va_S.rf
  have hZr : mm_Zr p l e (headSpec (Cond.code y bytes maxL ret :: mm_tbl) (mm_rm n0)).room s m (as.map (mm_v φ)).toArray below meth c 0 0 (MQ below (fun _ st o t => o = .returned (r.map (mm_v φ)) ∧ mm_R D tA φ z h' t t.heap ∧ va_F (mm_A z) st t) (as.map (mm_v φ)).toArray s 0 0 (mm_A z)) D tA φ z bytes P.2.2.2.2.2.2.2 r h' := by
    intro H locs ls pc hR1 hS1 hcase
    have hend : ∀ t : State, t.heap = H → s.WarmedH t.vm → mm_R D tA φ z h' t t.heap ∧ va_F (mm_A z) s t := fun t ht hW => ⟨by rw [ht]; exact hR1.moved hW.alike (by rw [ht]; exact Nat.le_trans hR.2.2.2.2 hS1.1), hS1.F ht⟩
    rcases hcase with ⟨c1, c2, c3⟩ | ⟨x, c1, c2, c3⟩
    · subst c2
      rw [c1] at hrt
      cases ret with
      | none => exact W.vret B.exec B.bytes hr (fun t ht hW => ⟨rfl, hend t ht hW⟩) (fun q hq => hS1.2.2 q hq) c3
      | some ty => simp [mm_rtok] at hrt
    · subst c1
      rcases c3 with ⟨c3, c4⟩ | c3
      · rw [c3] at hrt
        cases ret with
        | none => simp [mm_rtok] at hrt
        | some ty =>
          cases ty <;> first | exact W.zret B.exec B.bytes hr (mm_nar c4) (fun t ht hW => ⟨rfl, hend t ht hW⟩) (fun q hq => hS1.2.2 q hq) c2 | (simp [mm_rtok] at hrt)
      · rw [c3] at hrt
        cases ret with
        | none => simp [mm_rtok] at hrt
        | some ty =>
          cases ty <;> first | exact W.iret B.exec B.bytes hr (fun t ht hW => ⟨rfl, hend t ht hW⟩) (fun q hq => hS1.2.2 q hq) c2 | (simp [mm_rtok] at hrt)
  obtain ⟨ix, h1, h2⟩ := mm_run_ok (P := P) (n0 := n0) (res := (r, h')) X hcls hsys hP ⟨Nat.le_refl _, Nat.le_refl _⟩ ⟨Nat.zero_le _, Nat.zero_le _⟩ (fun q hq => List.all_eq_true.mp hcd q hq) hZr (mm_fu + 1) 0 as [] h hrun
  cases hix1.symm.trans h1
  have hl := lv_entry (as.map (mm_v φ)) (n := maxL) (by rw [mm_sl_map]; exact hix2)
  rw [mm_args_map, ← mm_ix_zip] at hl
  rw [lg_entry_eq]
  exact h2 s.heap [] _ hR hS hl
/-- the guard of a method that has an object -/
theorem mm_gd_inv {ci : Nat} {as : List Value} {h : mm_H} {o : mm_O} {r : Option Value × mm_H} (e : mm_gd ci as h o = some r) : o = some r ∧ ∃ (b : Nat) (as' : List Value) (fs : List Value), as = .ref b :: as' ∧ h b = some (.inr (ci, fs)) := by
  unfold mm_gd at e
  split at e
  · rename_i b as'
    split at e
    · rename_i c fs hb
      split at e
      · rename_i hc
        subst hc
        exact ⟨e, b, as', fs, rfl, hb⟩
      · cases e
    · cases e
  · cases e
theorem mm_ga_inv {cats : List Nat} {as : List Value} {o : mm_O} {r : Option Value × mm_H} (e : mm_ga cats as o = some r) : mm_cats as = cats ∧ o = some r := by
  unfold mm_ga at e
  split at e
  · rename_i hc
    exact ⟨hc, e⟩
  · cases e
