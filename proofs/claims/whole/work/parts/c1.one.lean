/-! FROM ONE CUT TO THE NEXT -/
def mm_one {ρ : Type} (P : mm_P) (kr : Option Value → mm_H → Option ρ) (kc : Nat → List Value → List Value → mm_H → Option ρ) (pc : Nat) (vs st : List Value) (h : mm_H) : Option ρ := match mm_lk P.2.2.2.2.2.1 pc with
  | none => none
  | some ix => mm_in P kr (fun pc' lv' st' h' => match mm_lk P.2.2.2.2.2.1 pc' with
    | none => none
    | some ix' => match mm_pk lv' ix' with
      | none => none
      | some vs' => kc pc' vs' st' h') 4000 (mm_find P.1 pc) (List.zip ix vs) st h
section ONE
variable {p : Program} {l : Launch} {e : Env} {R : Room} {s : State} {m : MethodId} {args : Array Value} {below : List Frame} {meth : Method} {c : Code} {cells slots : Nat} {Q : State → Prop}
variable {D : va_G} {tA : Nat → ClassId} {φ : Nat → Nat} {z : Nat} {cc : ByteArray} {own : String} {nL n0 : Nat}
theorem mm_one_ok {ρ : Type} {P : mm_P} (X : mm_X p s m args c cc own nL D tA) (hcls : mm_cls) (hsys : mm_sys) (hP : mm_Pok l own n0 P) (hRo : n0 ≤ R.frames ∧ 40 * n0 ≤ R.locals) (hf : cells ≤ R.cells ∧ slots ≤ R.slots) (hcd : ∀ q ∈ P.1, mm_okI cc nL P q = true)
    {kr : Option Value → mm_H → Option ρ} {kc : Nat → List Value → List Value → mm_H → Option ρ} {res : ρ} (hkr : ∀ r h, kr r h = some res → mm_Zr p l e R s m args below meth c cells slots Q D tA φ z cc P.2.2.2.2.2.2.2 r h)
    (hkc : ∀ pc vs st h ix, mm_lk P.2.2.2.2.2.1 pc = some ix → kc pc vs st h = some res → mm_Z p l e R s m args below meth c cells slots Q D tA φ z nL pc (List.zip ix vs) st h)
    {pc : Nat} {vs st : List Value} {h : mm_H} {ix : List Nat} (hix : mm_lk P.2.2.2.2.2.1 pc = some ix) (hv : mm_one P kr kc pc vs st h = some res) : mm_Z p l e R s m args below meth c cells slots Q D tA φ z nL pc (List.zip ix vs) st h := by
  unfold mm_one at hv
  rw [hix] at hv
  refine mm_in_ok X hcls hsys hP hRo hf hcd hkr (fun pc' lv' st' h' hgo => ?_) 4000 pc _ _ _ _ (fun q r e => mm_find_mem e) hv
  split at hgo
  · cases hgo
  · rename_i ix' hix'
    split at hgo
    · cases hgo
    · rename_i vs' hvs'
      have h2 := hkc pc' vs' st' h' ix' hix' hgo
      exact fun H locs ls hR hS hl => h2 H locs ls hR hS (mm_lv_less hl (mm_pk_zip ix' vs' hvs').2)
end ONE
