/-! what a program must be like, decided by program -/
def mm_swt (pc : Nat) : Int → List Int → List (Int32 × Nat) → Bool
  | _, [], [] => true
  | lo, o :: os, c :: cs => c.1.toInt == lo && decide ((pc : Int) + o = (c.2 : Int)) && mm_swt pc (lo + 1) os cs
  | _, _, _ => false
def mm_swl (pc : Nat) : List (Int × Int) → List (Int32 × Nat) → Bool
  | [], [] => true
  | o :: os, c :: cs => c.1.toInt == o.1 && decide ((pc : Int) + o.2 = (c.2 : Int)) && mm_swl pc os cs
  | _, _ => false
def mm_chk (P : mm_P) (q : mm_I) : Bool := match q.2.1 with
  | .iconst n => q.2.2.1 == 1 && Int32.ofInt n == q.2.2.2
  | .bipush n => q.2.2.1 == 2 && (Int8.ofInt n).toInt32 == q.2.2.2
  | .sipush n => q.2.2.1 == 3 && (Int16.ofInt n).toInt32 == q.2.2.2
  | .iinc _ n => q.2.2.1 == 3 && Int32.ofInt n == q.2.2.2
  | .goto o => q.2.2.1 == 3 && decide (0 ≤ (q.1 : Int) + o)
  | .ifCond _ o => q.2.2.1 == 3 && decide (0 ≤ (q.1 : Int) + o)
  | .if_icmp _ o => q.2.2.1 == 3 && decide (0 ≤ (q.1 : Int) + o)
  | .tableswitch d lo hi offs => (match mm_lk P.2.2.2.2.2.2.1 q.1 with
    | some w => mm_swt q.1 lo offs.toList w.1 && decide ((q.1 : Int) + d = (w.2 : Int)) && decide (hi = lo + (offs.size : Int) - 1)
    | none => false)
  | .lookupswitch d ps => (match mm_lk P.2.2.2.2.2.2.1 q.1 with
    | some w => mm_swl q.1 ps.toList w.1 && decide ((q.1 : Int) + d = (w.2 : Int)) && (ps.toList.zip (ps.toList.drop 1)).all (fun (a, next) => a.1 < next.1)
    | none => false)
  | .iload _ => q.2.2.1 == 2
  | .lload _ => q.2.2.1 == 2
  | .aload _ => q.2.2.1 == 2
  | .istore _ => q.2.2.1 == 2
  | .lstore _ => q.2.2.1 == 2
  | .astore _ => q.2.2.1 == 2
  | .ldc _ => q.2.2.1 == 2
  | .ldc_w _ => q.2.2.1 == 3
  | .ldc2_w _ => q.2.2.1 == 3
  | .getfield _ => q.2.2.1 == 3
  | .putfield _ => q.2.2.1 == 3
  | .invokevirtual _ => q.2.2.1 == 3
  | .invokestatic _ => q.2.2.1 == 3
  | _ => q.2.2.1 == 1
/-- stores into locals stay inside -/
def mm_nl (nL : Nat) (q : mm_I) : Bool := match q.2.1 with
  | .istore i => decide (i < nL)
  | .istore_n i => decide (i.1 < nL)
  | .astore i => decide (i < nL)
  | .astore_n i => decide (i.1 < nL)
  | .lstore i => decide (i + 1 < nL)
  | .lstore_n i => decide (i.1 + 1 < nL)
  | .iinc i _ => decide (i < nL)
  | _ => true
def mm_okI (cc : ByteArray) (nL : Nat) (P : mm_P) (q : mm_I) : Bool := decide (decode cc q.1 = .ok (q.2.1, q.2.2.1)) && mm_chk P q && mm_nl nL q
def mm_fty (t : Nat) (ty : FieldType) : Bool := match t, ty with
  | 0, .int => true
  | 1, .boolean => true
  | 2, .object _ => true
  | 2, .array _ => true
  | 3, .long => true
  | 4, .object _ => true
  | 4, .array _ => true
  | _, _ => false
def mm_fok (own : String) (i : Nat) (w : Nat × Nat × Nat) : Prop := ∃ (C : String) (T : u_T) (N : Nat) (ty : FieldType), vwCl[w.1]? = some (C, T, N) ∧ w.2.1 < N ∧ Cond.fieldLink own i (T w.2.1).1 (T w.2.1).2.1 (T w.2.1).2.2.1 ∈ mm_tbl ∧
  parseFieldDescriptor (T w.2.1).2.2.1 = some ty ∧ mm_fty w.2.2 ty = true ∧ (w.2.2 = 4 ∨ (T w.2.1).2.2.2 = false)
def mm_cls : Prop := ∀ (ci : Nat) (C : String) (T : u_T) (N : Nat), vwCl[ci]? = some (C, T, N) → (∀ w ∈ u_ws C T N, w ∈ mm_tbl) ∧ (∃ ty0 : Nat → FieldType, ∀ k, k < N → parseFieldDescriptor (T k).2.2.1 = some (ty0 k)) ∧ ∀ a, a < N → ∀ b, b < N → a ≠ b → (T a).2.1 ≠ (T b).2.1
/-- the room of a method of that height over the leaves -/
def mm_rm (n : Nat) : Room := { frames := n, cells := 0, slots := 0, locals := 40 * n }
/-- a method does what a function of the small machine says -/
def mm_Imp (l : Launch) (y : MethodName) (bytes : ByteArray) (maxL : Nat) (ret : Option FieldType) (n : Nat) (f : mm_F) : Prop :=
  ∀ (D : va_G) (tA : Nat → ClassId) (φ : Nat → Nat) (z : Nat) (as : List Value) (h : mm_H) (r : Option Value) (h' : mm_H), f as h = some (r, h') →
    Met l y (Cond.code y bytes maxL ret :: mm_tbl) (mm_rm n) (va_Pc (as.map (mm_v φ)) (fun U => mm_R D tA φ z h U U.heap ∧ mm_K D tA U))
      (fun _ st o t => o = .returned (r.map (mm_v φ)) ∧ mm_R D tA φ z h' t t.heap ∧ va_F (mm_A z) st t) 0 0 (mm_A z)
def mm_yok (y : MethodName) (k : Nat) : Bool := decide (y.cls ≠ "java/lang/invoke/MethodHandle") && decide (y.cls ≠ "java/lang/invoke/VarHandle") && decide ((parseMethodDescriptor y.desc).map (fun d => d.parameters.length) = some k)
/-- a call of that kind, from code of the class own, in a method of height n0 -/
def mm_cok (l : Launch) (own : String) (n0 i : Nat) (w : Nat × Nat × Nat × mm_F) : Prop :=
  (1 ≤ n0 ∧ ((w.1 = 2 ∧ Cond.methodLink own i arraycopyName ∈ mm_tbl) ∨ (w.1 = 4 ∧ Cond.methodLink own i Lib.Math.min.name ∈ mm_tbl) ∨ (w.1 = 5 ∧ Cond.methodLink own i Lib.Math.max.name ∈ mm_tbl))) ∨
  (w.1 = 1 ∧ ∃ (y : MethodName) (bytes : ByteArray) (maxL : Nat) (ret : Option FieldType) (n : Nat), mm_Imp l y bytes maxL ret n w.2.2.2 ∧ n + 1 ≤ n0 ∧ maxL ≤ 13 ∧ mm_yok y w.2.1 = true ∧
    (Cond.methodLink own i y ∈ mm_tbl ∨ ∃ host, Cond.methodLinkNest own i y host ∈ mm_nest) ∧ Cond.static y ∈ mm_tbl ∧ Cond.initialized y.cls ∈ mm_tbl ∧ Cond.code y bytes maxL ret ∈ mm_tbl) ∨
  (w.1 = 0 ∧ ∃ (y : MethodName) (bytes : ByteArray) (maxL : Nat) (ret : Option FieldType) (n ci : Nat) (T : u_T) (N : Nat), mm_Imp l y bytes maxL ret n w.2.2.2 ∧ n + 1 ≤ n0 ∧ maxL ≤ 13 ∧ mm_yok y w.2.1 = true ∧
    vwCl[ci]? = some (y.cls, T, N) ∧ (∀ as h r, w.2.2.2 as h = some r → ∃ (b : Nat) (as' : List Value) (fs : List Value), as = .ref b :: as' ∧ h b = some (.inr (ci, fs))) ∧
    Cond.methodLink own i y ∈ mm_tbl ∧ Cond.instanceMethod y ∈ mm_tbl ∧ Cond.selects y.cls y y ∈ mm_tbl ∧ Cond.initialized y.cls ∈ mm_tbl ∧ Cond.code y bytes maxL ret ∈ mm_tbl)
/-! turned round -/
section INV
variable {ρ : Type} {st : List Value} {r : ρ}
theorem mm_i1_inv {k : Int32 → List Value → Option ρ} (h : mm_i1 st k = some r) : ∃ x rest, st = .int x :: rest ∧ k x rest = some r := by
  unfold mm_i1 at h; split at h
  · exact ⟨_, _, rfl, h⟩
  · cases h
theorem mm_i2_inv {k : Int32 → Int32 → List Value → Option ρ} (h : mm_i2 st k = some r) : ∃ x y rest, st = .int y :: .int x :: rest ∧ k x y rest = some r := by
  unfold mm_i2 at h; split at h
  · exact ⟨_, _, _, rfl, h⟩
  · cases h
theorem mm_l1_inv {k : Int64 → List Value → Option ρ} (h : mm_l1 st k = some r) : ∃ x rest, st = .long x :: rest ∧ k x rest = some r := by
  unfold mm_l1 at h; split at h
  · exact ⟨_, _, rfl, h⟩
  · cases h
theorem mm_l2_inv {k : Int64 → Int64 → List Value → Option ρ} (h : mm_l2 st k = some r) : ∃ x y rest, st = .long y :: .long x :: rest ∧ k x y rest = some r := by
  unfold mm_l2 at h; split at h
  · exact ⟨_, _, _, rfl, h⟩
  · cases h
theorem mm_li2_inv {k : Int64 → Int32 → List Value → Option ρ} (h : mm_li2 st k = some r) : ∃ x y rest, st = .int y :: .long x :: rest ∧ k x y rest = some r := by
  unfold mm_li2 at h; split at h
  · exact ⟨_, _, _, rfl, h⟩
  · cases h
theorem mm_r1_inv {k : Nat → List Value → Option ρ} (h : mm_r1 st k = some r) : ∃ a rest, st = .ref a :: rest ∧ k a rest = some r := by
  unfold mm_r1 at h; split at h
  · exact ⟨_, _, rfl, h⟩
  · cases h
theorem mm_ri2_inv {k : Nat → Int32 → List Value → Option ρ} (h : mm_ri2 st k = some r) : ∃ a i rest, st = .int i :: .ref a :: rest ∧ k a i rest = some r := by
  unfold mm_ri2 at h; split at h
  · exact ⟨_, _, _, rfl, h⟩
  · cases h
theorem mm_ri2'_inv {k : Nat → Int32 → List Value → Option ρ} (h : mm_ri2' st k = some r) : ∃ a i rest, st = .int i :: .ref a :: rest ∧ k a i rest = some r := by
  unfold mm_ri2' at h; split at h
  · exact ⟨_, _, _, rfl, h⟩
  · cases h
theorem mm_rii_inv {k : Nat → Int32 → Int32 → List Value → Option ρ} (h : mm_rii st k = some r) : ∃ a i x rest, st = .int x :: .int i :: .ref a :: rest ∧ k a i x rest = some r := by
  unfold mm_rii at h; split at h
  · exact ⟨_, _, _, _, rfl, h⟩
  · cases h
theorem mm_ril_inv {k : Nat → Int32 → Int64 → List Value → Option ρ} (h : mm_ril st k = some r) : ∃ a i x rest, st = .long x :: .int i :: .ref a :: rest ∧ k a i x rest = some r := by
  unfold mm_ril at h; split at h
  · exact ⟨_, _, _, _, rfl, h⟩
  · cases h
theorem mm_rir_inv {k : Nat → Int32 → Nat → List Value → Option ρ} (h : mm_rir st k = some r) : ∃ a i x rest, st = .ref x :: .int i :: .ref a :: rest ∧ k a i x rest = some r := by
  unfold mm_rir at h; split at h
  · exact ⟨_, _, _, _, rfl, h⟩
  · cases h
theorem mm_rr_inv {k : Nat → Nat → List Value → Option ρ} (h : mm_rr st k = some r) : ∃ a x rest, st = .ref x :: .ref a :: rest ∧ k a x rest = some r := by
  unfold mm_rr at h; split at h
  · exact ⟨_, _, _, rfl, h⟩
  · cases h
theorem mm_rl_inv {k : Nat → Int64 → List Value → Option ρ} (h : mm_rl st k = some r) : ∃ a x rest, st = .long x :: .ref a :: rest ∧ k a x rest = some r := by
  unfold mm_rl at h; split at h
  · exact ⟨_, _, _, rfl, h⟩
  · cases h
theorem mm_acp_inv {k : Nat → Int32 → Nat → Int32 → Int32 → List Value → Option ρ} (h : mm_acp st k = some r) : ∃ a0 sp a dp n rest, st = .int n :: .int dp :: .ref a :: .int sp :: .ref a0 :: rest ∧ k a0 sp a dp n rest = some r := by
  unfold mm_acp at h; split at h
  · exact ⟨_, _, _, _, _, _, rfl, h⟩
  · cases h
theorem mm_pop_inv {k : List Value → List Value → Option ρ} : ∀ (n : Nat) (acc st : List Value), mm_pop n acc st k = some r → ∃ as rest, as.length = n ∧ st = as.reverse ++ rest ∧ k (as ++ acc) rest = some r := by
  intro n
  induction n with
  | zero => intro acc st h; exact ⟨[], st, rfl, rfl, h⟩
  | succ n ih =>
    intro acc st h
    cases st with
    | nil => cases h
    | cons v st =>
      obtain ⟨as, rest, h1, h2, h3⟩ := ih (v :: acc) st h
      refine ⟨as ++ [v], rest, by simp [h1], by simp [h2], by simpa using h3⟩
theorem mm_cv_inv {o : mm_O} {k : mm_H → Option ρ} (h : mm_cv o k = some r) : ∃ h', o = some (none, h') ∧ k h' = some r := by
  unfold mm_cv at h; split at h
  · exact ⟨_, rfl, h⟩
  · cases h
theorem mm_ci_inv {o : mm_O} {k : Int32 → mm_H → Option ρ} (h : mm_ci o k = some r) : ∃ x h', o = some (some (.int x), h') ∧ k x h' = some r := by
  unfold mm_ci at h; split at h
  · exact ⟨_, _, rfl, h⟩
  · cases h
end INV
section INV2
variable {h : mm_H} {a ci k : Nat}
theorem mm_gi_inv {x : Int32} (e : mm_gi ci k h a = some x) : ∃ fs, h a = some (.inr (ci, fs)) ∧ fs[k]? = some (.int x) := by
  unfold mm_gi at e; split at e
  · rename_i c fs hc
    split at e
    · rename_i hcc
      subst hcc
      split at e
      · rename_i y hy
        exact ⟨fs, hc, by rw [hy, Option.some.inj e]⟩
      · cases e
    · cases e
  · cases e
theorem mm_gl_inv {x : Int64} (e : mm_gl ci k h a = some x) : ∃ fs, h a = some (.inr (ci, fs)) ∧ fs[k]? = some (.long x) := by
  unfold mm_gl at e; split at e
  · rename_i c fs hc
    split at e
    · rename_i hcc
      subst hcc
      split at e
      · rename_i y hy
        exact ⟨fs, hc, by rw [hy, Option.some.inj e]⟩
      · cases e
    · cases e
  · cases e
theorem mm_gr_inv {x : Nat} (e : mm_gr ci k h a = some x) : ∃ fs, h a = some (.inr (ci, fs)) ∧ fs[k]? = some (.ref x) := by
  unfold mm_gr at e; split at e
  · rename_i c fs hc
    split at e
    · rename_i hcc
      subst hcc
      split at e
      · rename_i y hy
        exact ⟨fs, hc, by rw [hy, Option.some.inj e]⟩
      · cases e
    · cases e
  · cases e
theorem mm_pf_inv {v : Value} {h' : mm_H} (e : mm_pf ci k v h a = some h') : ∃ fs, h a = some (.inr (ci, fs)) ∧ k < fs.length ∧ h' = mm_up h a (.inr (ci, fs.set k v)) := by
  unfold mm_pf at e; split at e
  · rename_i c fs hc
    split at e
    · rename_i hcc
      obtain ⟨rfl, hk⟩ := hcc
      exact ⟨fs, hc, hk, (Option.some.inj e).symm⟩
    · cases e
  · cases e
theorem mm_li_inv {i x : Int32} (e : mm_li h a i = some x) : ∃ t n f, h a = some (.inl (t, n, .inl f)) ∧ (t = 0 ∨ t = 9) ∧ vp_in i n ∧ x = f i.toNatClampNeg := by
  unfold mm_li at e; split at e
  · rename_i t n f hc
    split at e
    · rename_i ht
      split at e
      · cases e
      · rename_i hi
        exact ⟨t, n, f, hc, ht, hi, (Option.some.inj e).symm⟩
    · cases e
  · cases e
theorem mm_lb_inv {i x : Int32} (e : mm_lb h a i = some x) : ∃ t n f, h a = some (.inl (t, n, .inl f)) ∧ (t = 2 ∨ t = 3) ∧ vp_in i n ∧ x = f i.toNatClampNeg := by
  unfold mm_lb at e; split at e
  · rename_i t n f hc
    split at e
    · rename_i ht
      split at e
      · cases e
      · rename_i hi
        exact ⟨t, n, f, hc, ht, hi, (Option.some.inj e).symm⟩
    · cases e
  · cases e
theorem mm_ll_inv {i : Int32} {x : Int64} (e : mm_ll h a i = some x) : ∃ n f, h a = some (.inl (1, n, .inr (.inl f))) ∧ vp_in i n ∧ x = f i.toNatClampNeg := by
  unfold mm_ll at e; split at e
  · rename_i t n f hc
    split at e
    · rename_i ht
      subst ht
      split at e
      · cases e
      · rename_i hi
        exact ⟨n, f, hc, hi, (Option.some.inj e).symm⟩
    · cases e
  · cases e
theorem mm_lr_inv {i : Int32} {x : Nat} (e : mm_lr h a i = some x) : ∃ t n f, h a = some (.inl (t, n, .inr (.inr (.inr (.inr f))))) ∧ (t = 4 ∨ t = 5) ∧ vp_in i n ∧ f i.toNatClampNeg = some x := by
  unfold mm_lr at e; split at e
  · rename_i t n f hc
    split at e
    · rename_i ht
      split at e
      · cases e
      · rename_i hi
        exact ⟨t, n, f, hc, ht, hi, e⟩
    · cases e
  · cases e
theorem mm_ln_inv {x : Int32} (e : mm_ln h a = some x) : ∃ n f, h a = some (.inl (9, n, .inl f)) ∧ x = Int32.ofNat n := by
  unfold mm_ln at e; split at e
  · rename_i t n f hc
    split at e
    · rename_i ht
      subst ht
      exact ⟨n, f, hc, (Option.some.inj e).symm⟩
    · cases e
  · cases e
theorem mm_si_inv {i x : Int32} {h' : mm_H} (e : mm_si h a i x = some h') : ∃ n f, h a = some (.inl (0, n, .inl f)) ∧ vp_in i n ∧ h' = mm_up h a (.inl (0, n, .inl (upd f i.toNatClampNeg x))) := by
  unfold mm_si at e; split at e
  · rename_i t n f hc
    split at e
    · rename_i ht
      subst ht
      split at e
      · cases e
      · rename_i hi
        exact ⟨n, f, hc, hi, (Option.some.inj e).symm⟩
    · cases e
  · cases e
theorem mm_sb_inv {i x : Int32} {h' : mm_H} (e : mm_sb h a i x = some h') : ∃ n f, vp_in i n ∧ ((h a = some (.inl (2, n, .inl f)) ∧ h' = mm_up h a (.inl (2, n, .inl (upd f i.toNatClampNeg (vp_nar .byte x))))) ∨ (h a = some (.inl (3, n, .inl f)) ∧ h' = mm_up h a (.inl (3, n, .inl (upd f i.toNatClampNeg (vp_nar .boolean x)))))) := by
  unfold mm_sb at e; split at e
  · rename_i t n f hc
    split at e
    · cases e
    · rename_i hi
      split at e
      · rename_i ht
        subst ht
        exact ⟨n, f, hi, Or.inl ⟨hc, (Option.some.inj e).symm⟩⟩
      · split at e
        · rename_i ht
          subst ht
          exact ⟨n, f, hi, Or.inr ⟨hc, (Option.some.inj e).symm⟩⟩
        · cases e
  · cases e
theorem mm_sl_inv {i : Int32} {x : Int64} {h' : mm_H} (e : mm_sl h a i x = some h') : ∃ n f, h a = some (.inl (1, n, .inr (.inl f))) ∧ vp_in i n ∧ h' = mm_up h a (.inl (1, n, .inr (.inl (vp_updL f i.toNatClampNeg x)))) := by
  unfold mm_sl at e; split at e
  · rename_i t n f hc
    split at e
    · rename_i ht
      subst ht
      split at e
      · cases e
      · rename_i hi
        exact ⟨n, f, hc, hi, (Option.some.inj e).symm⟩
    · cases e
  · cases e
theorem mm_sr_inv {i : Int32} {v : Nat} {h' : mm_H} (e : mm_sr h a i v = some h') : ∃ t n f fs, h a = some (.inl (t, n, .inr (.inr (.inr (.inr f))))) ∧ h v = some (.inr (mm_ob t, fs)) ∧ (t = 4 ∨ t = 5) ∧ vp_in i n ∧ h' = mm_up h a (.inl (t, n, .inr (.inr (.inr (.inr (va_up f i.toNatClampNeg (some v))))))) := by
  unfold mm_sr at e; split at e
  · rename_i t n f c fs hc hv
    split at e
    · rename_i ht
      obtain ⟨ht, rfl⟩ := ht
      split at e
      · cases e
      · rename_i hi
        exact ⟨t, n, f, fs, hc, hv, ht, hi, (Option.some.inj e).symm⟩
    · cases e
  · cases e
theorem mm_cp_inv {a0 : Nat} {sp dp n : Int32} {h' : mm_H} (e : mm_cp h a0 sp a dp n = some h') : ∃ n0 f n1 g, h a0 = some (.inl (0, n0, .inl f)) ∧ h a = some (.inl (0, n1, .inl g)) ∧ ¬ sp < 0 ∧ ¬ dp < 0 ∧ ¬ n < 0 ∧ sp.toNatClampNeg + n.toNatClampNeg ≤ n0 ∧ dp.toNatClampNeg + n.toNatClampNeg ≤ n1 ∧ h' = mm_up h a (.inl (0, n1, .inl (va_cpy f g sp.toNatClampNeg dp.toNatClampNeg n.toNatClampNeg))) := by
  unfold mm_cp at e; split at e
  · rename_i t0 n0 f t1 n1 g h0 h1
    split at e
    · rename_i hh
      obtain ⟨rfl, rfl, c1, c2, c3, c4, c5⟩ := hh
      exact ⟨n0, f, n1, g, h0, h1, c1, c2, c3, c4, c5, (Option.some.inj e).symm⟩
    · cases e
  · cases e
theorem mm_lk_mem {α : Type} {l : List (Nat × α)} {i : Nat} {x : α} (e : mm_lk l i = some x) : (i, x) ∈ l := by
  induction l with
  | nil => cases e
  | cons q r ih =>
    unfold mm_lk at e
    split at e
    · rename_i hb
      have h1 : q.1 = i := Nat.eq_of_beq_eq_true hb
      have h2 : q.2 = x := Option.some.inj e
      rw [← h1, ← h2]
      exact List.mem_cons_self
    · exact List.mem_cons_of_mem _ (ih e)
theorem mm_find_mem {cd : List mm_I} {n : Nat} {q : mm_I} {r : List mm_I} (e : mm_find cd n = q :: r) : q.1 = n ∧ q ∈ cd ∧ ∀ x ∈ r, x ∈ cd := by
  induction cd with
  | nil => cases e
  | cons a cd ih =>
    unfold mm_find at e
    split at e
    · rename_i hb
      cases e
      exact ⟨Nat.eq_of_beq_eq_true hb, List.mem_cons_self, fun x hx => List.mem_cons_of_mem _ hx⟩
    · obtain ⟨h1, h2, h3⟩ := ih e
      exact ⟨h1, List.mem_cons_of_mem _ h2, fun x hx => List.mem_cons_of_mem _ (h3 x hx)⟩
theorem mm_seek_mem {cd cs : List mm_I} (hcs : ∀ x ∈ cs, x ∈ cd) {n : Nat} {q : mm_I} {r : List mm_I} (e : mm_seek cd cs n = q :: r) : q.1 = n ∧ q ∈ cd ∧ ∀ x ∈ r, x ∈ cd := by
  unfold mm_seek at e
  split at e
  · cases e
  · rename_i a b
    split at e
    · rename_i hb
      cases e
      exact ⟨Nat.eq_of_beq_eq_true hb, hcs _ List.mem_cons_self, fun x hx => hcs x (List.mem_cons_of_mem _ hx)⟩
    · exact mm_find_mem e
end INV2
theorem mm_swt_sw {ρ : Type} {x : Int32} {r : ρ} {dflt : Nat} {go : Nat → Option ρ} {pc : Nat} : ∀ (cs : List (Int32 × Nat)) (lo : Int) (os : List Int), mm_swt pc lo os cs = true → mm_sw x dflt go cs = some r →
    (∃ (off : Int) (t : Nat), lo ≤ x.toInt ∧ x.toInt < lo + os.length ∧ os[(x.toInt - lo).toNat]? = some off ∧ (pc : Int) + off = (t : Int) ∧ go t = some r) ∨ ((x.toInt < lo ∨ lo + os.length ≤ x.toInt) ∧ go dflt = some r) := by
  intro cs
  induction cs with
  | nil =>
    intro lo os h1 h2
    cases os with
    | nil => exact Or.inr ⟨by simp; omega, h2⟩
    | cons o os => simp [mm_swt] at h1
  | cons c cs ih =>
    intro lo os h1 h2
    cases os with
    | nil => simp [mm_swt] at h1
    | cons o os =>
      simp only [mm_swt, Bool.and_eq_true, beq_iff_eq, decide_eq_true_eq] at h1
      obtain ⟨⟨g1, g2⟩, g3⟩ := h1
      unfold mm_sw at h2
      by_cases hx : x = c.1
      · rw [if_pos hx] at h2
        have e1 : x.toInt = lo := by rw [hx]; exact g1
        refine Or.inl ⟨o, c.2, by omega, by simp only [List.length_cons]; omega, ?_, g2, h2⟩
        rw [e1, Int.sub_self]
        rfl
      · rw [if_neg hx] at h2
        have e1 : x.toInt ≠ lo := fun e => hx (Int32.toInt_inj.mp (e.trans g1.symm))
        rcases ih (lo + 1) os g3 h2 with ⟨off, t, k1, k2, k3, k4, k5⟩ | ⟨k1, k2⟩
        · refine Or.inl ⟨off, t, by omega, by simp only [List.length_cons]; omega, ?_, k4, k5⟩
          have e2 : (x.toInt - lo).toNat = (x.toInt - (lo + 1)).toNat + 1 := by omega
          rw [e2, List.getElem?_cons_succ]
          exact k3
        · refine Or.inr ⟨?_, k2⟩
          simp only [List.length_cons]
          omega
theorem mm_swl_sw {ρ : Type} {x : Int32} {r : ρ} {dflt : Nat} {d : Int} {go : Nat → Option ρ} {pc : Nat} (hd : (pc : Int) + d = (dflt : Int)) : ∀ (cs : List (Int32 × Nat)) (os : List (Int × Int)), mm_swl pc os cs = true → mm_sw x dflt go cs = some r →
    ∃ t : Nat, (pc : Int) + Op.lookupswitch.offset os d x.toInt = (t : Int) ∧ go t = some r := by
  intro cs
  induction cs with
  | nil =>
    intro os h1 h2
    cases os with
    | nil => exact ⟨dflt, hd, h2⟩
    | cons o os => simp [mm_swl] at h1
  | cons c cs ih =>
    intro os h1 h2
    cases os with
    | nil => simp [mm_swl] at h1
    | cons o os =>
      simp only [mm_swl, Bool.and_eq_true, beq_iff_eq, decide_eq_true_eq] at h1
      obtain ⟨⟨g1, g2⟩, g3⟩ := h1
      obtain ⟨o1, o2⟩ := o
      unfold mm_sw at h2
      by_cases hx : x = c.1
      · rw [if_pos hx] at h2
        refine ⟨c.2, ?_, h2⟩
        rw [Op.lookupswitch.offset_cons, if_pos (by rw [hx]; exact g1.symm)]
        exact g2
      · rw [if_neg hx] at h2
        have e1 : o1 ≠ x.toInt := fun e => hx (Int32.toInt_inj.mp (e.symm.trans g1.symm))
        rw [Op.lookupswitch.offset_cons, if_neg e1]
        exact ih os g3 h2
