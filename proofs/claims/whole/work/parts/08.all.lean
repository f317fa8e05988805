section ALL
variable {p : Program} {l : Launch} {e : Env} {R : Room} {s : State} {m : MethodId} {args : Array Value} {below : List Frame} {meth : Method} {c : Code} {cells slots : Nat} {Q : State → Prop}
variable {D : va_G} {tA : Nat → ClassId} {φ : Nat → Nat} {z : Nat} {cc : ByteArray} {own : String} {nL n0 : Nat}
/-- words that the copying of arrays wants -/
def mm_sys : Prop := (Cond.native arraycopyName ∈ mm_tbl ∧ Cond.static arraycopyName ∈ mm_tbl ∧ Cond.initialized "java/lang/System" ∈ mm_tbl) ∧ Cond.initialized "java/lang/Math" ∈ mm_tbl ∧
  (Cond.static Lib.Math.min.name ∈ mm_tbl ∧ Cond.code Lib.Math.min.name Lib.Math.min.code 2 (some .int) ∈ mm_tbl) ∧ Cond.static Lib.Math.max.name ∈ mm_tbl ∧ Cond.code Lib.Math.max.name Lib.Math.max.code 2 (some .int) ∈ mm_tbl
/-- what a program's tables must say -/
def mm_Pok (l : Launch) (own : String) (n0 : Nat) (P : mm_P) : Prop := (∀ i w, mm_lk P.2.1 i = some w → mm_fok own i w) ∧ (∀ i w, mm_lk P.2.2.1 i = some w → mm_cok l own n0 i w) ∧ (∀ i v, mm_lk P.2.2.2.1 i = some v → Cond.constant own i v ∈ mm_tbl) ∧ ∀ i v, mm_lk P.2.2.2.2.1 i = some v → Cond.constantLong own i v ∈ mm_tbl
/-- the machine goes on well where a method returns -/
def mm_Zr (p : Program) (l : Launch) (e : Env) (R : Room) (s : State) (m : MethodId) (args : Array Value) (below : List Frame) (meth : Method) (c : Code) (cells slots : Nat) (Q : State → Prop) (D : va_G) (tA : Nat → ClassId) (φ : Nat → Nat) (z : Nat) (cc : ByteArray) (rt : Nat) (r : Option Value) (h : mm_H) : Prop :=
  ∀ (H : Heap) (locs : List Loc) (ls : Array Slot) (pc : Nat), mm_R D tA φ z h s H → va_S (mm_A z) s.heap H locs → ((rt = 0 ∧ r = none ∧ decode cc pc = .ok (.return_, 1)) ∨ (∃ x : Int32, r = some (.int x) ∧ decode cc pc = .ok (.ireturn, 1) ∧ ((rt = 1 ∧ (x = 0 ∨ x = 1)) ∨ rt = 2))) →
    W p l e R s m args below meth c H locs cells slots Q (F0 m pc ls r.toList)
theorem mm_st_ok {ρ : Type} {P : mm_P} (X : mm_X p s m args c cc own nL D tA) (hcls : mm_cls) (hsys : mm_sys) (hP : mm_Pok l own n0 P) (hRo : n0 ≤ R.frames ∧ 40 * n0 ≤ R.locals) (hf : cells ≤ R.cells ∧ slots ≤ R.slots)
    {kr : Option Value → mm_H → Option ρ} {go : mm_G ρ} {res : ρ} (hkr : ∀ r h, kr r h = some res → mm_Zr p l e R s m args below meth c cells slots Q D tA φ z cc P.2.2.2.2.2.2.2 r h) (hgo : ∀ pc lv st h, go pc lv st h = some res → mm_Z p l e R s m args below meth c cells slots Q D tA φ z nL pc lv st h)
    {q : mm_I} (hq : mm_okI cc nL P q = true) {lv : mm_L} {st : List Value} {h : mm_H} (hv : mm_st P kr go q lv st h = some res) : mm_Z p l e R s m args below meth c cells slots Q D tA φ z nL q.1 lv st h := by
  have X0 := X
  obtain ⟨hx, hb, hml, hown, hts, hK⟩ := X
  obtain ⟨pc, ins, len, v⟩ := q
  simp only [mm_okI, Bool.and_eq_true, decide_eq_true_eq] at hq
  obtain ⟨⟨hdg, hck⟩, hnl⟩ := hq
  dsimp only at hdg ⊢
  cases ins <;> simp only [mm_st, mm_chk, mm_nl, reduceCtorEq, Bool.and_eq_true, beq_iff_eq, decide_eq_true_eq] at hv hck hnl
  case iconst n =>
    obtain ⟨rfl, h2⟩ := hck
    exact fun H locs ls hR hS hl => lv_iconst hx hb hdg h2 (hgo _ _ _ _ hv H locs ls hR hS hl)
  case bipush n =>
    obtain ⟨rfl, h2⟩ := hck
    exact fun H locs ls hR hS hl => lv_bipush hx hb hdg h2 (hgo _ _ _ _ hv H locs ls hR hS hl)
  case sipush n =>
    obtain ⟨rfl, h2⟩ := hck
    exact fun H locs ls hR hS hl => lv_sipush hx hb hdg h2 (hgo _ _ _ _ hv H locs ls hR hS hl)
  case lconst n =>
    subst hck
    exact fun H locs ls hR hS hl => lv_lconst hx hb hdg rfl (hgo _ _ _ _ hv H locs ls hR hS hl)
  case ldc i =>
    subst hck
    obtain ⟨w, h1, h2⟩ := Option.bind_eq_some_iff.mp hv
    exact fun H locs ls hR hS hl => lv_ldc hx hb hown (hts _ (hP.2.2.1 i w h1)) hdg (hgo _ _ _ _ h2 H locs ls hR hS hl)
  case ldc_w i =>
    subst hck
    obtain ⟨w, h1, h2⟩ := Option.bind_eq_some_iff.mp hv
    exact fun H locs ls hR hS hl => lv_ldcw hx hb hown (hts _ (hP.2.2.1 i w h1)) hdg (hgo _ _ _ _ h2 H locs ls hR hS hl)
  case ldc2_w i =>
    subst hck
    obtain ⟨w, h1, h2⟩ := Option.bind_eq_some_iff.mp hv
    exact fun H locs ls hR hS hl => lv_ldc2 hx hb hown (hts _ (hP.2.2.2 i w h1)) hdg (hgo _ _ _ _ h2 H locs ls hR hS hl)
  case iload i =>
    subst hck
    split at hv
    · rename_i x hx2
      exact fun H locs ls hR hS hl => lv_iload hx hb hdg (mm_lv_at hl hx2) (hgo _ _ _ _ hv H locs ls hR hS hl)
    · cases hv
  case iload_n i =>
    subst hck
    split at hv
    · rename_i x hx2
      exact fun H locs ls hR hS hl => lv_iload_n hx hb hdg rfl (mm_lv_at hl hx2) (hgo _ _ _ _ hv H locs ls hR hS hl)
    · cases hv
  case lload i =>
    subst hck
    split at hv
    · rename_i x hx2
      exact fun H locs ls hR hS hl => lv_lload hx hb hdg (mm_lv_at hl hx2) (hgo _ _ _ _ hv H locs ls hR hS hl)
    · cases hv
  case lload_n i =>
    subst hck
    split at hv
    · rename_i x hx2
      exact fun H locs ls hR hS hl => lv_lload_n hx hb hdg rfl (mm_lv_at hl hx2) (hgo _ _ _ _ hv H locs ls hR hS hl)
    · cases hv
  case aload i =>
    subst hck
    split at hv
    · rename_i x hx2
      exact fun H locs ls hR hS hl => lv_aload hx hb hdg (mm_lv_at hl hx2) (hgo _ _ _ _ hv H locs ls hR hS hl)
    · cases hv
  case aload_n i =>
    subst hck
    split at hv
    · rename_i x hx2
      exact fun H locs ls hR hS hl => lv_aload_n hx hb hdg rfl (mm_lv_at hl hx2) (hgo _ _ _ _ hv H locs ls hR hS hl)
    · cases hv
  case istore i =>
    subst hck
    obtain ⟨x, r, rfl, h2⟩ := mm_i1_inv hv
    exact fun H locs ls hR hS hl => lv_istore hx hb hdg hl hnl (mm_s1_map lv i (.int x)) (fun ls hl => hgo _ _ _ _ h2 H locs ls hR hS hl)
  case istore_n i =>
    subst hck
    obtain ⟨x, r, rfl, h2⟩ := mm_i1_inv hv
    exact fun H locs ls hR hS hl => lv_istore_n hx hb hdg rfl hl hnl (mm_s1_map lv i.1 (.int x)) (fun ls hl => hgo _ _ _ _ h2 H locs ls hR hS hl)
  case astore i =>
    subst hck
    obtain ⟨x, r, rfl, h2⟩ := mm_r1_inv hv
    exact fun H locs ls hR hS hl => lv_astore hx hb hdg hl hnl (mm_s1_map lv i (.ref x)) (fun ls hl => hgo _ _ _ _ h2 H locs ls hR hS hl)
  case astore_n i =>
    subst hck
    obtain ⟨x, r, rfl, h2⟩ := mm_r1_inv hv
    exact fun H locs ls hR hS hl => lv_astore_n hx hb hdg rfl hl hnl (mm_s1_map lv i.1 (.ref x)) (fun ls hl => hgo _ _ _ _ h2 H locs ls hR hS hl)
  case lstore i =>
    subst hck
    obtain ⟨x, r, rfl, h2⟩ := mm_l1_inv hv
    exact fun H locs ls hR hS hl => lv_lstore hx hb hdg hl hnl (mm_s2_map lv i (.long x)) (fun ls hl => hgo _ _ _ _ h2 H locs ls hR hS hl)
  case lstore_n i =>
    subst hck
    obtain ⟨x, r, rfl, h2⟩ := mm_l1_inv hv
    exact fun H locs ls hR hS hl => lv_lstore_n hx hb hdg rfl hl hnl (mm_s2_map lv i.1 (.long x)) (fun ls hl => hgo _ _ _ _ h2 H locs ls hR hS hl)
  case iinc i n =>
    obtain ⟨rfl, h2⟩ := hck
    split at hv
    · rename_i x hx2
      intro H locs ls hR hS hl
      obtain ⟨k, hk⟩ := List.getElem?_of_mem (List.mem_map.mpr ⟨(i, Value.int x), mm_lk_mem hx2, rfl⟩ : (i, mm_v φ (.int x)) ∈ lv.map fun q => (q.1, mm_v φ q.2))
      exact lv_iinc hx hb hdg hl hk (by rw [h2]) hnl (mm_s1_map lv i (.int (x + v))) (fun ls hl => hgo _ _ _ _ hv H locs ls hR hS hl)
    · cases hv
  case iadd =>
    subst hck
    obtain ⟨x, y, r, rfl, h2⟩ := mm_i2_inv hv
    exact fun H locs ls hR hS hl => lv_iadd hx hb hdg (hgo _ _ _ _ h2 H locs ls hR hS hl)
  case isub =>
    subst hck
    obtain ⟨x, y, r, rfl, h2⟩ := mm_i2_inv hv
    exact fun H locs ls hR hS hl => lv_isub hx hb hdg (hgo _ _ _ _ h2 H locs ls hR hS hl)
  case imul =>
    subst hck
    obtain ⟨x, y, r, rfl, h2⟩ := mm_i2_inv hv
    exact fun H locs ls hR hS hl => lv_imul hx hb hdg (hgo _ _ _ _ h2 H locs ls hR hS hl)
  case iand =>
    subst hck
    obtain ⟨x, y, r, rfl, h2⟩ := mm_i2_inv hv
    exact fun H locs ls hR hS hl => lv_iand hx hb hdg (hgo _ _ _ _ h2 H locs ls hR hS hl)
  case ior =>
    subst hck
    obtain ⟨x, y, r, rfl, h2⟩ := mm_i2_inv hv
    exact fun H locs ls hR hS hl => lv_ior hx hb hdg (hgo _ _ _ _ h2 H locs ls hR hS hl)
  case ixor =>
    subst hck
    obtain ⟨x, y, r, rfl, h2⟩ := mm_i2_inv hv
    exact fun H locs ls hR hS hl => lv_ixor hx hb hdg (hgo _ _ _ _ h2 H locs ls hR hS hl)
  case ishl =>
    subst hck
    obtain ⟨x, y, r, rfl, h2⟩ := mm_i2_inv hv
    exact fun H locs ls hR hS hl => lv_ishl hx hb hdg (hgo _ _ _ _ h2 H locs ls hR hS hl)
  case ishr =>
    subst hck
    obtain ⟨x, y, r, rfl, h2⟩ := mm_i2_inv hv
    exact fun H locs ls hR hS hl => lv_ishr hx hb hdg (hgo _ _ _ _ h2 H locs ls hR hS hl)
  case iushr =>
    subst hck
    obtain ⟨x, y, r, rfl, h2⟩ := mm_i2_inv hv
    exact fun H locs ls hR hS hl => lv_iushr hx hb hdg rfl (hgo _ _ _ _ h2 H locs ls hR hS hl)
  case idiv =>
    subst hck
    obtain ⟨x, y, r, rfl, h2⟩ := mm_i2_inv hv
    split at h2
    · cases h2
    · rename_i hne
      exact fun H locs ls hR hS hl => lv_idiv hx hb hdg hne (hgo _ _ _ _ h2 H locs ls hR hS hl)
  case irem =>
    subst hck
    obtain ⟨x, y, r, rfl, h2⟩ := mm_i2_inv hv
    split at h2
    · cases h2
    · rename_i hne
      exact fun H locs ls hR hS hl => lv_irem hx hb hdg hne (hgo _ _ _ _ h2 H locs ls hR hS hl)
  case ladd =>
    subst hck
    obtain ⟨x, y, r, rfl, h2⟩ := mm_l2_inv hv
    exact fun H locs ls hR hS hl => lv_ladd hx hb hdg (hgo _ _ _ _ h2 H locs ls hR hS hl)
  case lsub =>
    subst hck
    obtain ⟨x, y, r, rfl, h2⟩ := mm_l2_inv hv
    exact fun H locs ls hR hS hl => lv_lsub hx hb hdg (hgo _ _ _ _ h2 H locs ls hR hS hl)
  case lmul =>
    subst hck
    obtain ⟨x, y, r, rfl, h2⟩ := mm_l2_inv hv
    exact fun H locs ls hR hS hl => lv_lmul hx hb hdg (hgo _ _ _ _ h2 H locs ls hR hS hl)
  case land =>
    subst hck
    obtain ⟨x, y, r, rfl, h2⟩ := mm_l2_inv hv
    exact fun H locs ls hR hS hl => lv_land hx hb hdg (hgo _ _ _ _ h2 H locs ls hR hS hl)
  case lor =>
    subst hck
    obtain ⟨x, y, r, rfl, h2⟩ := mm_l2_inv hv
    exact fun H locs ls hR hS hl => lv_lor hx hb hdg (hgo _ _ _ _ h2 H locs ls hR hS hl)
  case lcmp =>
    subst hck
    obtain ⟨x, y, r, rfl, h2⟩ := mm_l2_inv hv
    exact fun H locs ls hR hS hl => W.lcmp hx hb hdg (hgo _ _ _ _ h2 H locs ls hR hS hl)
  case lshl =>
    subst hck
    obtain ⟨x, y, r, rfl, h2⟩ := mm_li2_inv hv
    exact fun H locs ls hR hS hl => lv_lshl hx hb hdg rfl (hgo _ _ _ _ h2 H locs ls hR hS hl)
  case lshr =>
    subst hck
    obtain ⟨x, y, r, rfl, h2⟩ := mm_li2_inv hv
    exact fun H locs ls hR hS hl => lv_lshr hx hb hdg rfl (hgo _ _ _ _ h2 H locs ls hR hS hl)
  case i2l =>
    subst hck
    obtain ⟨x, r, rfl, h2⟩ := mm_i1_inv hv
    exact fun H locs ls hR hS hl => lv_i2l hx hb hdg rfl (hgo _ _ _ _ h2 H locs ls hR hS hl)
  case l2i =>
    subst hck
    obtain ⟨x, r, rfl, h2⟩ := mm_l1_inv hv
    exact fun H locs ls hR hS hl => lv_l2i hx hb hdg rfl (hgo _ _ _ _ h2 H locs ls hR hS hl)
  case i2b =>
    subst hck
    obtain ⟨x, r, rfl, h2⟩ := mm_i1_inv hv
    exact fun H locs ls hR hS hl => lv_i2b hx hb hdg rfl (hgo _ _ _ _ h2 H locs ls hR hS hl)
  case dup =>
    subst hck
    split at hv
    · exact fun H locs ls hR hS hl => lv_dup hx hb hdg rfl (hgo _ _ _ _ hv H locs ls hR hS hl)
    · exact fun H locs ls hR hS hl => lv_dup hx hb hdg rfl (hgo _ _ _ _ hv H locs ls hR hS hl)
    · cases hv
  case dup2 =>
    subst hck
    obtain ⟨a, i, r, rfl, h2⟩ := mm_ri2_inv hv
    exact fun H locs ls hR hS hl => lv_dup2_11 hx hb hdg rfl rfl (hgo _ _ _ _ h2 H locs ls hR hS hl)
  case pop =>
    subst hck
    obtain ⟨x, r, rfl, h2⟩ := mm_i1_inv hv
    exact fun H locs ls hR hS hl => lv_pop hx hb hdg rfl (hgo _ _ _ _ h2 H locs ls hR hS hl)
  case goto o =>
    obtain ⟨rfl, h2⟩ := hck
    exact fun H locs ls hR hS hl => lv_goto hx hb hdg (mm_tg_ok h2) (hgo _ _ _ _ hv H locs ls hR hS hl)
  case ifCond cd o =>
    obtain ⟨rfl, h2⟩ := hck
    obtain ⟨x, r, rfl, h3⟩ := mm_i1_inv hv
    have kt := fun hh => hgo (mm_tg pc o) lv r h hh
    have kf := fun hh => hgo (pc + 3) lv r h hh
    cases cd <;> simp only [mm_cd] at h3
    · exact fun H locs ls hR hS hl => lv_if_eq hx hb hdg (mm_tg_ok h2) (fun cx => kt (by rwa [if_pos cx] at h3) H locs ls hR hS hl) (fun cx => kf (by rwa [if_neg cx] at h3) H locs ls hR hS hl)
    · exact fun H locs ls hR hS hl => lv_if_ne hx hb hdg (mm_tg_ok h2) (fun cx => kt (by rwa [if_neg cx] at h3) H locs ls hR hS hl) (fun cx => kf (by rwa [if_pos cx] at h3) H locs ls hR hS hl)
    · exact fun H locs ls hR hS hl => lv_if_lt hx hb hdg (mm_tg_ok h2) (fun cx => kt (by rwa [if_pos cx] at h3) H locs ls hR hS hl) (fun cx => kf (by rwa [if_neg cx] at h3) H locs ls hR hS hl)
    · exact fun H locs ls hR hS hl => lv_if_ge hx hb hdg (mm_tg_ok h2) (fun cx => kt (by rwa [if_neg (Int32.not_lt.mpr cx)] at h3) H locs ls hR hS hl) (fun cx => kf (by rwa [if_pos (Int32.not_le.mp cx)] at h3) H locs ls hR hS hl)
    · exact fun H locs ls hR hS hl => lv_if_gt hx hb hdg (mm_tg_ok h2) (fun cx => kt (by rwa [if_pos cx] at h3) H locs ls hR hS hl) (fun cx => kf (by rwa [if_neg cx] at h3) H locs ls hR hS hl)
    · exact fun H locs ls hR hS hl => lv_if_le hx hb hdg (mm_tg_ok h2) (fun cx => kt (by rwa [if_neg (Int32.not_lt.mpr cx)] at h3) H locs ls hR hS hl) (fun cx => kf (by rwa [if_pos (Int32.not_le.mp cx)] at h3) H locs ls hR hS hl)
  case if_icmp cd o =>
    obtain ⟨rfl, h2⟩ := hck
    obtain ⟨x, y, r, rfl, h3⟩ := mm_i2_inv hv
    have kt := fun hh => hgo (mm_tg pc o) lv r h hh
    have kf := fun hh => hgo (pc + 3) lv r h hh
    cases cd <;> simp only [mm_cd] at h3
    · exact fun H locs ls hR hS hl => lv_icmp_eq hx hb hdg (mm_tg_ok h2) (fun cx => kt (by rwa [if_pos cx] at h3) H locs ls hR hS hl) (fun cx => kf (by rwa [if_neg cx] at h3) H locs ls hR hS hl)
    · exact fun H locs ls hR hS hl => lv_icmp_ne hx hb hdg (mm_tg_ok h2) (fun cx => kt (by rwa [if_neg cx] at h3) H locs ls hR hS hl) (fun cx => kf (by rwa [if_pos cx] at h3) H locs ls hR hS hl)
    · exact fun H locs ls hR hS hl => lv_icmp_lt hx hb hdg (mm_tg_ok h2) (fun cx => kt (by rwa [if_pos cx] at h3) H locs ls hR hS hl) (fun cx => kf (by rwa [if_neg cx] at h3) H locs ls hR hS hl)
    · exact fun H locs ls hR hS hl => lv_icmp_ge hx hb hdg (mm_tg_ok h2) (fun cx => kt (by rwa [if_neg (Int32.not_lt.mpr cx)] at h3) H locs ls hR hS hl) (fun cx => kf (by rwa [if_pos (Int32.not_le.mp cx)] at h3) H locs ls hR hS hl)
    · exact fun H locs ls hR hS hl => lv_icmp_gt hx hb hdg (mm_tg_ok h2) (fun cx => kt (by rwa [if_pos cx] at h3) H locs ls hR hS hl) (fun cx => kf (by rwa [if_neg cx] at h3) H locs ls hR hS hl)
    · exact fun H locs ls hR hS hl => lv_icmp_le hx hb hdg (mm_tg_ok h2) (fun cx => kt (by rwa [if_neg (Int32.not_lt.mpr cx)] at h3) H locs ls hR hS hl) (fun cx => kf (by rwa [if_pos (Int32.not_le.mp cx)] at h3) H locs ls hR hS hl)
  case tableswitch d lo hi offs =>
    obtain ⟨x, r, rfl, h2⟩ := mm_i1_inv hv
    obtain ⟨w, h3, h4⟩ := Option.bind_eq_some_iff.mp h2
    rw [h3] at hck
    simp only [Bool.and_eq_true, decide_eq_true_eq] at hck
    obtain ⟨⟨k1, k2⟩, k3⟩ := hck
    have hlen : offs.toList.length = offs.size := Array.length_toList
    rcases mm_swt_sw _ lo offs.toList k1 h4 with ⟨off, t, g1, g2, g3, g4, g5⟩ | ⟨g1, g2⟩
    · exact fun H locs ls hR hS hl => lv_tableIn hx hb hdg (by omega) (by omega) (by rw [← Array.getElem?_toList]; exact g3) g4 (hgo _ _ _ _ g5 H locs ls hR hS hl)
    · exact fun H locs ls hR hS hl => lv_tableOut hx hb hdg (by omega) k2 (hgo _ _ _ _ g2 H locs ls hR hS hl)
  case lookupswitch d ps =>
    obtain ⟨x, r, rfl, h2⟩ := mm_i1_inv hv
    obtain ⟨w, h3, h4⟩ := Option.bind_eq_some_iff.mp h2
    rw [h3] at hck
    simp only [Bool.and_eq_true, decide_eq_true_eq] at hck
    obtain ⟨⟨k1, k2⟩, k3⟩ := hck
    obtain ⟨t, g1, g2⟩ := mm_swl_sw k2 _ _ k1 h4
    exact fun H locs ls hR hS hl => lv_lookup hx hb hdg k3 rfl g1 (hgo _ _ _ _ g2 H locs ls hR hS hl)
  case getfield i =>
    subst hck
    obtain ⟨a, r, rfl, h2⟩ := mm_r1_inv hv
    obtain ⟨w, h3, h4⟩ := Option.bind_eq_some_iff.mp h2
    have hw := hP.1 i w h3
    split at h4
    · obtain ⟨x, g1, g2⟩ := Option.bind_eq_some_iff.mp h4
      obtain ⟨fs, g3, g4⟩ := mm_gi_inv g1
      exact mm_zget X0 hcls hw g3 g4 hdg (hgo _ _ _ _ g2)
    · obtain ⟨x, g1, g2⟩ := Option.bind_eq_some_iff.mp h4
      obtain ⟨fs, g3, g4⟩ := mm_gi_inv g1
      exact mm_zget X0 hcls hw g3 g4 hdg (hgo _ _ _ _ g2)
    · obtain ⟨x, g1, g2⟩ := Option.bind_eq_some_iff.mp h4
      obtain ⟨fs, g3, g4⟩ := mm_gl_inv g1
      exact mm_zget X0 hcls hw g3 g4 hdg (hgo _ _ _ _ g2)
    · obtain ⟨x, g1, g2⟩ := Option.bind_eq_some_iff.mp h4
      obtain ⟨fs, g3, g4⟩ := mm_gr_inv g1
      exact mm_zget X0 hcls hw g3 g4 hdg (hgo _ _ _ _ g2)
  case putfield i =>
    subst hck
    obtain ⟨w, h3, h4⟩ := Option.bind_eq_some_iff.mp hv
    have hw := hP.1 i w h3
    split at h4
    · rename_i h0
      obtain ⟨a, x, r, rfl, g0⟩ := mm_ri2'_inv h4
      obtain ⟨h', g1, g2⟩ := Option.bind_eq_some_iff.mp g0
      exact mm_zput (P := P) X0 hcls hw (by omega) (fun ty ht => by rw [h0] at ht; cases ty <;> first | exact ⟨rfl, rfl⟩ | (simp [mm_fty] at ht)) hdg g1 (hgo _ _ _ _ g2)
    · rename_i h0
      obtain ⟨a, x, r, rfl, g0⟩ := mm_ri2'_inv h4
      split at g0
      · rename_i hx01
        obtain ⟨h', g1, g2⟩ := Option.bind_eq_some_iff.mp g0
        exact mm_zput (P := P) X0 hcls hw (by omega) (fun ty ht => by rw [h0] at ht; cases ty <;> first | exact ⟨mm_nar hx01, mm_fits hx01⟩ | (simp [mm_fty] at ht)) hdg g1 (hgo _ _ _ _ g2)
      · cases g0
    · rename_i h0
      obtain ⟨a, x, r, rfl, g0⟩ := mm_rr_inv h4
      obtain ⟨h', g1, g2⟩ := Option.bind_eq_some_iff.mp g0
      exact mm_zput (P := P) X0 hcls hw (by omega) (fun ty ht => by rw [h0] at ht; cases ty <;> first | exact ⟨rfl, rfl⟩ | (simp [mm_fty] at ht)) hdg g1 (hgo _ _ _ _ g2)
    · rename_i h0
      obtain ⟨a, x, r, rfl, g0⟩ := mm_rl_inv h4
      obtain ⟨h', g1, g2⟩ := Option.bind_eq_some_iff.mp g0
      exact mm_zput (P := P) X0 hcls hw (by omega) (fun ty ht => by rw [h0] at ht; cases ty <;> first | exact ⟨rfl, rfl⟩ | (simp [mm_fty] at ht)) hdg g1 (hgo _ _ _ _ g2)
    · cases h4
  case iaload =>
    subst hck
    obtain ⟨a, i, r, rfl, g0⟩ := mm_ri2_inv hv
    obtain ⟨x, g1, g2⟩ := Option.bind_eq_some_iff.mp g0
    exact mm_zli X0 g1 hdg (hgo _ _ _ _ g2)
  case baload =>
    subst hck
    obtain ⟨a, i, r, rfl, g0⟩ := mm_ri2_inv hv
    obtain ⟨x, g1, g2⟩ := Option.bind_eq_some_iff.mp g0
    exact mm_zlb X0 g1 hdg (hgo _ _ _ _ g2)
  case laload =>
    subst hck
    obtain ⟨a, i, r, rfl, g0⟩ := mm_ri2_inv hv
    obtain ⟨x, g1, g2⟩ := Option.bind_eq_some_iff.mp g0
    exact mm_zll X0 g1 hdg (hgo _ _ _ _ g2)
  case aaload =>
    subst hck
    obtain ⟨a, i, r, rfl, g0⟩ := mm_ri2_inv hv
    obtain ⟨x, g1, g2⟩ := Option.bind_eq_some_iff.mp g0
    exact mm_zlr X0 g1 hdg (hgo _ _ _ _ g2)
  case arraylength =>
    subst hck
    obtain ⟨a, r, rfl, g0⟩ := mm_r1_inv hv
    obtain ⟨x, g1, g2⟩ := Option.bind_eq_some_iff.mp g0
    exact mm_zln X0 g1 hdg (hgo _ _ _ _ g2)
  case iastore =>
    subst hck
    obtain ⟨a, i, x, r, rfl, g0⟩ := mm_rii_inv hv
    obtain ⟨h', g1, g2⟩ := Option.bind_eq_some_iff.mp g0
    exact mm_zsi X0 g1 hdg (hgo _ _ _ _ g2)
  case bastore =>
    subst hck
    obtain ⟨a, i, x, r, rfl, g0⟩ := mm_rii_inv hv
    obtain ⟨h', g1, g2⟩ := Option.bind_eq_some_iff.mp g0
    exact mm_zsb X0 g1 hdg (hgo _ _ _ _ g2)
  case lastore =>
    subst hck
    obtain ⟨a, i, x, r, rfl, g0⟩ := mm_ril_inv hv
    obtain ⟨h', g1, g2⟩ := Option.bind_eq_some_iff.mp g0
    exact mm_zsl X0 g1 hdg (hgo _ _ _ _ g2)
  case aastore =>
    subst hck
    obtain ⟨a, i, x, r, rfl, g0⟩ := mm_rir_inv hv
    obtain ⟨h', g1, g2⟩ := Option.bind_eq_some_iff.mp g0
    exact mm_zsr X0 g1 hdg (hgo _ _ _ _ g2)
  case invokevirtual i =>
    subst hck
    obtain ⟨w, h3, h4⟩ := Option.bind_eq_some_iff.mp hv
    split at h4
    · rename_i hk0
      obtain ⟨as, r, hn, rfl, g0⟩ := mm_pop_inv _ _ _ h4
      rw [List.append_nil] at g0
      split at g0
      · rename_i hwt
        rcases hP.2.1 i w h3 with ⟨-, b1⟩ | ⟨b1, -⟩ | ⟨-, y, bytes, maxL, ret, n, ci, T, N, hI, hn0, hmx, hy, hc, hgd, w1, w2, w3, w4, w5⟩
        · omega
        · omega
        have hroom : n + 1 ≤ R.frames ∧ 16 + (maxL + 11) + 40 * n ≤ R.locals := ⟨by omega, by omega⟩
        split at g0
        · obtain ⟨h', g1, g2⟩ := mm_cv_inv g0
          obtain ⟨b, as', fs, rfl, hob⟩ := hgd _ _ _ g1
          rw [List.reverse_cons, List.append_assoc]
          exact mm_zvirt X0 hI hroom hy hc w1 w2 w3 w4 w5 hf (by simpa using hn) hwt g1 hob hdg (hgo _ _ _ _ g2)
        · obtain ⟨x, h', g1, g2⟩ := mm_ci_inv g0
          obtain ⟨b, as', fs, rfl, hob⟩ := hgd _ _ _ g1
          rw [List.reverse_cons, List.append_assoc]
          exact mm_zvirt X0 hI hroom hy hc w1 w2 w3 w4 w5 hf (by simpa using hn) hwt g1 hob hdg (hgo _ _ _ _ g2)
      · cases g0
    · cases h4
  case invokestatic i =>
    subst hck
    obtain ⟨w, h3, h4⟩ := Option.bind_eq_some_iff.mp hv
    split at h4
    · rename_i hk0
      obtain ⟨as, r, hn, rfl, g0⟩ := mm_pop_inv _ _ _ h4
      rw [List.append_nil] at g0
      split at g0
      · rename_i hwt
        rcases hP.2.1 i w h3 with ⟨-, b1⟩ | ⟨-, y, bytes, maxL, ret, n, hI, hn0, hmx, hy, w1, w2, w3, w4⟩ | ⟨b1, -⟩
        · omega
        · have hroom : n + 1 ≤ R.frames ∧ 16 + (maxL + 11) + 40 * n ≤ R.locals := ⟨by omega, by omega⟩
          split at g0
          · obtain ⟨h', g1, g2⟩ := mm_cv_inv g0
            exact mm_zstat X0 hI hroom hy w1 w2 w3 w4 hf hn hwt g1 hdg (hgo _ _ _ _ g2)
          · obtain ⟨x, h', g1, g2⟩ := mm_ci_inv g0
            exact mm_zstat X0 hI hroom hy w1 w2 w3 w4 hf hn hwt g1 hdg (hgo _ _ _ _ g2)
        · omega
      · cases g0
    · rename_i hk0
      obtain ⟨x, y, r, rfl, g0⟩ := mm_i2_inv h4
      split at g0
      · rename_i hwt
        rcases hP.2.1 i w h3 with ⟨b0, ⟨b1, -⟩ | ⟨-, b2⟩ | ⟨b1, -⟩⟩ | ⟨b1, -⟩ | ⟨b1, -⟩
        · omega
        · exact fun H locs ls hR hS hl => va_mmin hx hb (hml.trans hl.1.symm) hown (hts _ b2) (hts _ hsys.2.2.1.1) (hts _ hsys.2.1) (hts _ hsys.2.2.1.2) (by omega) (by rw [mm_wt_map]; omega) hf.1 hf.2 hdg (hgo _ _ _ _ g0 H locs ls hR hS hl)
        · omega
        · omega
        · omega
      · cases g0
    · rename_i hk0
      obtain ⟨x, y, r, rfl, g0⟩ := mm_i2_inv h4
      split at g0
      · rename_i hwt
        rcases hP.2.1 i w h3 with ⟨b0, ⟨b1, -⟩ | ⟨b1, -⟩ | ⟨-, b2⟩⟩ | ⟨b1, -⟩ | ⟨b1, -⟩
        · omega
        · omega
        · exact fun H locs ls hR hS hl => va_mmax hx hb (hml.trans hl.1.symm) hown (hts _ b2) (hts _ hsys.2.2.2.1) (hts _ hsys.2.1) (hts _ hsys.2.2.2.2) (by omega) (by rw [mm_wt_map]; omega) hf.1 hf.2 hdg (hgo _ _ _ _ g0 H locs ls hR hS hl)
        · omega
        · omega
      · cases g0
    · rename_i hk0
      obtain ⟨a0, sp, a, dp, n, r, rfl, g0⟩ := mm_acp_inv h4
      split at g0
      · rename_i hwt
        obtain ⟨h', g1, g2⟩ := Option.bind_eq_some_iff.mp g0
        rcases hP.2.1 i w h3 with ⟨b0, ⟨-, b2⟩ | ⟨b1, -⟩ | ⟨b1, -⟩⟩ | ⟨b1, -⟩ | ⟨b1, -⟩
        · exact mm_zcp X0 b2 hsys.1.1 hsys.1.2.1 hsys.1.2.2 ⟨by omega, by omega⟩ hwt g1 hdg (hgo _ _ _ _ g2)
        · omega
        · omega
        · omega
        · omega
      · cases g0
    · cases h4
  case ireturn =>
    subst hck
    split at hv
    · rename_i x
      split at hv
      · rename_i hrt
        split at hv
        · rename_i hx01
          exact fun H locs ls hR hS hl => hkr _ _ hv H locs ls pc hR hS (Or.inr ⟨x, rfl, hdg, Or.inl ⟨hrt, hx01⟩⟩)
        · cases hv
      · rename_i hrt
        exact fun H locs ls hR hS hl => hkr _ _ hv H locs ls pc hR hS (Or.inr ⟨x, rfl, hdg, Or.inr hrt⟩)
      · cases hv
    · cases hv
  case return_ =>
    subst hck
    split at hv
    · split at hv
      · rename_i hrt
        exact fun H locs ls hR hS hl => hkr _ _ hv H locs ls pc hR hS (Or.inl ⟨hrt, rfl, hdg⟩)
      · cases hv
    · cases hv
end ALL
