/-! THE SMALL MACHINE THAT MAKES CELLS IS SOUND -/
def mx_tok (own : String) (i k : Nat) : Prop := (k = 0 ∧ Cond.methodLink own i yJ0_length_8abf5 ∈ mm_tbl) ∨ (k = 1 ∧ Cond.methodLink own i yJ0_charAt_5068e ∈ mm_tbl)
theorem ts_44 : mx_tok RX9 44 0 := Or.inl ⟨rfl, tb_44⟩
theorem ts_49 : mx_tok RX9 49 1 := Or.inr ⟨rfl, tb_49⟩
def mx_nok (own : String) (i : Nat) (w : Nat × List Value) : Prop := mx_born w.1 w.2 ∧ ∃ (C : String) (T : u_T) (n : Nat), vwCl[w.1]? = some (C, T, n) ∧ Cond.classLink own i C ∈ mm_tbl
def mx_qok (own : String) (i t : Nat) : Prop := (t = 4 ∧ Cond.classLink own i RX8 ∈ mm_tbl) ∨ (t = 5 ∧ Cond.classLink own i RX2 ∈ mm_tbl)
def mx_fok (own : String) (w : Nat × Nat × Nat) : Prop := w.2.2 = 4 → ∃ (C : String) (T : u_T) (N : Nat), vwCl[w.1]? = some (C, T, N) ∧ (T w.2.1).2.2.2 = true ∧ (T w.2.1).1 = own
def mx_Xok (l : Launch) (own : String) (n0 : Nat) (P : mm_P) (X : mx_T) : Prop := (∀ i w, mm_lk X.1 i = some w → mx_nok own i w) ∧ (∀ i t, mm_lk X.2.1 i = some t → mx_qok own i t) ∧ (∀ i w, mm_lk X.2.2.1 i = some w → mx_cok l own n0 i w) ∧ (∀ i w, mm_lk X.2.2.2.1 i = some w → own = RX9 ∧ i = 42) ∧ (∀ i k, mm_lk X.2.2.2.2 i = some k → mx_tok own i k ∧ 6 ≤ n0) ∧ ∀ i w, mm_lk P.2.1 i = some w → mx_fok own w
theorem mx_Xok_of {l : Launch} {own : String} {n0 : Nat} {P : mm_P} {X : mx_T} (h1 : ∀ q ∈ X.1, mx_nok own q.1 q.2) (h2 : ∀ q ∈ X.2.1, mx_qok own q.1 q.2) (h3 : ∀ q ∈ X.2.2.1, mx_cok l own n0 q.1 q.2) (h4 : ∀ q ∈ X.2.2.2.1, own = RX9 ∧ q.1 = 42) (h5 : ∀ q ∈ X.2.2.2.2, mx_tok own q.1 q.2 ∧ 6 ≤ n0) (h6 : ∀ q ∈ P.2.1, mx_fok own q.2) : mx_Xok l own n0 P X :=
  ⟨fun i w h => h1 (i, w) (mm_lk_mem h), fun i w h => h2 (i, w) (mm_lk_mem h), fun i w h => h3 (i, w) (mm_lk_mem h), fun i w h => h4 (i, w) (mm_lk_mem h), fun i w h => h5 (i, w) (mm_lk_mem h), fun i w h => h6 (i, w) (mm_lk_mem h)⟩
def mx_okI (cc : ByteArray) (nL : Nat) (P : mm_P) (q : mm_I) : Bool := decide (decode cc q.1 = .ok (q.2.1, q.2.2.1)) && (match q.2.1 with
  | .new _ => q.2.2.1 == 3
  | .newarray _ => q.2.2.1 == 2
  | .anewarray _ => q.2.2.1 == 3
  | .invokespecial _ => q.2.2.1 == 3
  | _ => mm_chk P q && mm_nl nL q)
theorem mx_ok_inv {h : mm_H} {B : Nat × Nat × Nat} {N N' S' : Nat} (he : mx_ok h B N N' S' = true) : (B.1 = N ∨ mx_live h N = true) ∧ (1 ≤ N ∧ N < 1000) ∧ N' ≤ B.2.1 ∧ S' ≤ B.2.2 := by
  unfold mx_ok at he
  simp only [Bool.and_eq_true, Bool.or_eq_true] at he
  obtain ⟨h1, h2, h3, h4, h5⟩ := he
  have h3 := Nat.le_of_ble_eq_true h3
  exact ⟨h1.imp Nat.eq_of_beq_eq_true id, ⟨Nat.le_of_ble_eq_true h2, by omega⟩, Nat.le_of_ble_eq_true h4, Nat.le_of_ble_eq_true h5⟩
section SOU
variable {p : Program} {l : Launch} {e : Env} {R : Room} {s : State} {m : MethodId} {args : Array Value} {below : List Frame} {meth : Method} {c : Code} {Q : State → Prop}
variable {D : va_G} {tA : Nat → ClassId} {φ : Nat → Nat} {β z : Nat} {cc : ByteArray} {own : String} {nL n0 : Nat} {P : mm_P} {Y : mx_T} {B : Nat × Nat × Nat}
theorem mx_okI_mm {q : mm_I} (h : mx_okI cc nL P q = true) (h2 : (mm_chk P q && mm_nl nL q) = true) : mm_okI cc nL P q = true := by
  unfold mx_okI at h
  unfold mm_okI
  rw [Bool.and_assoc, h2, Bool.and_true]
  exact (Bool.and_eq_true _ _ ▸ h).1
/-- what is given where cells are made -/
def mx_giv (l : Launch) (R : Room) (s : State) (meth : Method) (own : String) (n0 : Nat) (φ : Nat → Nat) (β z : Nat) (P : mm_P) (Y : mx_T) (B : Nat × Nat × Nat) : Prop :=
  (mm_Pok l own n0 P ∧ mx_Xok l own n0 P Y) ∧ (1 ≤ n0 ∧ n0 ≤ R.frames ∧ 40 * n0 ≤ R.locals) ∧ xK φ z s ∧ mx_adr φ β z ∧ (s.heap.size + 1 = β + B.1 ∧ B.2.1 ≤ B.1 + R.cells ∧ B.2.2 ≤ R.slots) ∧ (meth.name = "<init>" ∨ ∀ i w, mm_lk P.2.1 i = some w → w.2.2 ≠ 4)
theorem mx_st_ok {ρ : Type} (X : mm_X p s m args c cc own nL D tA) (hg : mx_giv l R s meth own n0 φ β z P Y B) {go : mx_G ρ} {res : ρ}
    (hgo : ∀ pc lv st h N S, go pc lv st h N S = some res → B.1 ≤ N ∧ N ≤ B.2.1 ∧ S ≤ B.2.2 → mm_Z p l e R s m args below meth c (N - B.1) S Q D tA φ z nL pc lv st h)
    {q : mm_I} (hq : mx_okI cc nL P q = true) {lv : mm_L} {st : List Value} {h : mm_H} {N S : Nat} (hB : B.1 ≤ N ∧ N ≤ B.2.1 ∧ S ≤ B.2.2) (hv : mx_st P Y B go q lv st h N S = some res) : mm_Z p l e R s m args below meth c (N - B.1) S Q D tA φ z nL q.1 lv st h := by
  obtain ⟨⟨hP, hY⟩, ⟨hn1, hn2, hn3⟩, hK0, ha, ⟨hsz, hbc, hbs⟩, hini⟩ := hg
  have hf : N - B.1 ≤ R.cells ∧ S ≤ R.slots := ⟨by omega, by omega⟩
  have hmm : (mm_chk P q && mm_nl nL q) = true → mm_st P (fun _ _ => none) (fun pc lv st h => go pc lv st h N S) q lv st h = some res → mm_Z p l e R s m args below meth c (N - B.1) S Q D tA φ z nL q.1 lv st h := fun h1 h2 =>
    mm_st_ok X mm_cls_ok mm_sys_ok hP ⟨hn2, hn3⟩ hf (kr := fun _ _ => none) (fun r h hh => by cases hh) (fun pc lv st h hh => hgo pc lv st h N S hh hB) (mx_okI_mm hq h1) h2
  have hdec : decode cc q.1 = .ok (q.2.1, q.2.2.1) := by
    unfold mx_okI at hq
    exact of_decide_eq_true (Bool.and_eq_true _ _ ▸ hq).1
  have hchk := (Bool.and_eq_true _ _ ▸ (show mx_okI cc nL P q = true from hq)).2
  have h2N : s.heap.size + 1 + (N - B.1) = β + N := by omega
  obtain ⟨pc, ins, len, v⟩ := q
  cases ins <;> dsimp only [mx_st] at hv hchk hdec hmm ⊢
  case new i =>
    obtain ⟨w, h1, h2⟩ := Option.bind_eq_some_iff.mp hv
    split at h2
    · rename_i hok
      obtain ⟨o1, o2, o3, o4⟩ := mx_ok_inv hok
      obtain ⟨k1, k2⟩ := hY.1 i w h1
      have hlen : len = 3 := by simpa using hchk
      subst hlen
      have k := hgo _ _ _ _ _ _ h2 ⟨by omega, o3, o4⟩
      rw [show N + 1 - B.1 = N - B.1 + 1 by omega] at k
      exact mx_znew X mm_cls_ok ha k1 k2 h2N o2 (o1.imp (by omega) id) ⟨by omega, by omega⟩ hdec k
    · cases h2
  case newarray ty =>
    obtain ⟨n, r, rfl, h1⟩ := mm_i1_inv hv
    obtain ⟨w, h2, h3⟩ := Option.bind_eq_some_iff.mp h1
    split at h3
    · cases h3
    · rename_i hn
      split at h3
      · rename_i hn2
        split at h3
        · rename_i hok
          obtain ⟨o1, o2, o3, o4⟩ := mx_ok_inv hok
          have hlen : len = 2 := by simpa using hchk
          subst hlen
          have k := hgo _ _ _ _ _ _ h3 ⟨by omega, o3, o4⟩
          rw [show N + 1 - B.1 = N - B.1 + 1 by omega] at k
          exact mx_znewa X mx_aok_ok ha h2 hn (Nat.le_of_ble_eq_true hn2) h2N o2 (o1.imp (by omega) id) ⟨by omega, by omega⟩ hdec k
        · cases h3
      · cases h3
  case anewarray i =>
    obtain ⟨n, r, rfl, h1⟩ := mm_i1_inv hv
    obtain ⟨t, h2, h3⟩ := Option.bind_eq_some_iff.mp h1
    split at h3
    · cases h3
    · rename_i hn
      split at h3
      · rename_i hn2
        split at h3
        · rename_i hok
          obtain ⟨o1, o2, o3, o4⟩ := mx_ok_inv hok
          have hlen : len = 3 := by simpa using hchk
          subst hlen
          have k := hgo _ _ _ _ _ _ h3 ⟨by omega, o3, o4⟩
          rw [show N + 1 - B.1 = N - B.1 + 1 by omega] at k
          refine mx_znewq X ha ?_ hn (Nat.le_of_ble_eq_true hn2) h2N o2 (o1.imp (by omega) id) ⟨by omega, by omega⟩ hdec k
          rcases hY.2.1 i t h2 with ⟨t1, t2⟩ | ⟨t1, t2⟩
          · exact Or.inl ⟨t1, t2, hK0.1.2⟩
          · exact Or.inr ⟨t1, t2, hK0.1.1⟩
        · cases h3
      · cases h3
  case invokespecial i =>
    obtain ⟨w, h1, h2⟩ := Option.bind_eq_some_iff.mp hv
    have hlen : len = 3 := by simpa using hchk
    subst hlen
    rcases hY.2.2.1 i w h1 with ⟨w0, w1⟩ | ⟨w0, y, bytes, maxL, n, y1, y2, y3, y4, y5, y6, y7, y8, y9⟩
    · rw [w0] at h2
      obtain ⟨a, r, rfl, h3⟩ := mm_r1_inv h2
      split at h3
      · rename_i hw
        exact mx_zobj X w1 mx_obj_ok.1 mx_obj_ok.2 ⟨by omega, by omega⟩ hw hdec (hgo _ _ _ _ _ _ h3 hB)
      · cases h3
    · rw [w0] at h2
      obtain ⟨as, rest, g1, rfl, g2⟩ := mm_pop_inv _ _ _ h2
      rw [List.append_nil] at g2
      cases as with
      | nil => cases g1
      | cons b as =>
        split at g2
        · rename_i hw
          split at g2
          · rename_i hok
            unfold mx_ref at g2
            split at g2
            · rename_i b0 as0 heq
              cases heq
              obtain ⟨h', g3, g4⟩ := Option.bind_eq_some_iff.mp g2
              obtain ⟨o1, o2, o3, o4⟩ := mx_ok_inv hok
              have k := hgo _ _ _ _ _ _ g4 ⟨by omega, o3, o4⟩
              rw [show N + w.2.2.1 - B.1 = N - B.1 + w.2.2.1 by omega] at k
              rw [List.reverse_cons, List.append_assoc]
              exact mx_zctor X hK0 ha y1 ⟨by omega, by omega⟩ y4 y5 y6 y7 y8 y9 ⟨by omega, by omega⟩ h2N o2 (o1.imp (by omega) id) (Nat.succ.inj g1) hw g3 hdec k
            · cases g2
          · cases g2
        · cases g2
  case putfield i =>
    obtain ⟨w, h1, h2⟩ := Option.bind_eq_some_iff.mp hv
    split at h2
    · rename_i h4
      obtain ⟨a, x, r, rfl, h3⟩ := mm_rr_inv h2
      obtain ⟨h', g1, g2⟩ := Option.bind_eq_some_iff.mp h3
      have hlen : len = 3 := by
        have := (Bool.and_eq_true _ _ ▸ hchk).1
        simpa [mm_chk] using this
      subst hlen
      rcases hini with hini | hini
      · exact mx_zputF X mm_cls_ok hini (hP.1 i w h1) (hY.2.2.2.2.2 i w h1 h4) h4 hdec g1 (hgo _ _ _ _ _ _ g2 hB)
      · exact absurd h4 (hini i w h1)
    · exact hmm hchk h2
  case ldc i =>
    split at hv
    · rename_i w h1
      obtain ⟨rfl, rfl⟩ := hY.2.2.2.1 i w h1
      have hlen : len = 2 := by
        have := (Bool.and_eq_true _ _ ▸ hchk).1
        simpa [mm_chk] using this
      subst hlen
      exact mx_zldc X hK0.2 hdec (hgo _ _ _ _ _ _ hv hB)
    · exact hmm hchk hv
  case invokevirtual i =>
    have hlen : len = 3 := by
      have := (Bool.and_eq_true _ _ ▸ hchk).1
      simpa [mm_chk] using this
    subst hlen
    split at hv
    · rename_i h1
      obtain ⟨k1, k2⟩ := hY.2.2.2.2.1 i 0 h1
      have k1 := (k1.resolve_right (fun hh => absurd hh.1 (by decide))).2
      obtain ⟨a, r, rfl, h3⟩ := mm_r1_inv hv
      split at h3
      · rename_i hw
        obtain ⟨rfl, hw⟩ := hw
        exact mx_zlen X hK0.2 k1 ⟨by omega, by omega⟩ hf (by omega) hdec (hgo _ _ _ _ _ _ h3 hB)
      · cases h3
    · rename_i k h1 h9
      obtain ⟨k1, k2⟩ := hY.2.2.2.2.1 i k h9
      have k1 := (k1.resolve_left (fun hh => h1 hh.1)).2
      obtain ⟨a, x, r, rfl, h3⟩ := mm_ri2_inv hv
      split at h3
      · rename_i hw
        obtain ⟨rfl, hw, hx1, hx2⟩ := hw
        exact mx_zchar X hK0.2 k1 ⟨by omega, by omega⟩ hf (by omega) hx1 hx2 hdec (hgo _ _ _ _ _ _ h3 hB)
      · cases h3
    · exact hmm hchk hv
  all_goals exact hmm hchk hv
theorem mx_in_ok (X : mm_X p s m args c cc own nL D tA) (hg : mx_giv l R s meth own n0 φ β z P Y B) (hcd : ∀ q ∈ P.1, mx_okI cc nL P q = true) {stop : Nat} {res : mm_L × List Value × mm_H × Nat × Nat}
    (hend : B.1 ≤ res.2.2.2.1 ∧ res.2.2.2.1 ≤ B.2.1 ∧ res.2.2.2.2 ≤ B.2.2 → mm_Z p l e R s m args below meth c (res.2.2.2.1 - B.1) res.2.2.2.2 Q D tA φ z nL stop res.1 res.2.1 res.2.2.1) :
    ∀ (F pc : Nat) (cs : List mm_I) (lv : mm_L) (st : List Value) (h : mm_H) (N S : Nat), (∀ q r, cs = q :: r → q.1 = pc ∧ q ∈ P.1 ∧ ∀ x ∈ r, x ∈ P.1) → B.1 ≤ N ∧ N ≤ B.2.1 ∧ S ≤ B.2.2 → mx_in P Y B stop F pc cs lv st h N S = some res → mm_Z p l e R s m args below meth c (N - B.1) S Q D tA φ z nL pc lv st h := by
  intro F
  induction F with
  | zero => intro pc cs lv st h N S _ _ hv; cases hv
  | succ F ih =>
    intro pc cs lv st h N S hcs hB hv
    unfold mx_in at hv
    split at hv
    · rename_i hs
      cases hv
      rw [Nat.eq_of_beq_eq_true hs]
      exact hend hB
    · cases cs with
      | nil => cases hv
      | cons q r =>
        obtain ⟨rfl, h2, h3⟩ := hcs q r rfl
        exact mx_st_ok X hg (fun pc' lv' st' h' N' S' hgo hB' => ih pc' _ lv' st' h' N' S' (fun q' r' e' => mm_seek_mem h3 e') hB' hgo) (hcd q h2) hB hv
end SOU
theorem mx_f_inv {P : mm_P} {Y : mx_T} {cats : List Nat} {stop mc ms : Nat} {as : List Value} {h h' : mm_H} {N : Nat} (hv : mx_f P Y cats stop mc ms as h N = some h') : mm_cats as = cats ∧ ∃ res, mx_in P Y (N, N + mc, ms) stop 20000 0 P.1 (List.zip (mm_ixc 0 cats) as) [] h N 0 = some res ∧ res.2.1 = [] ∧ res.2.2.1 = h' ∧ res.2.2.2.1 = N + mc := by
  unfold mx_f at hv
  split at hv
  · rename_i h1
    obtain ⟨res, h2, h3⟩ := Option.bind_eq_some_iff.mp hv
    split at h3
    · rename_i h4
      cases h3
      exact ⟨h1, res, h2, h4.2, rfl, Nat.eq_of_beq_eq_true h4.1⟩
    · cases h3
  · cases hv
/-- a constructor's program, held against its own bytes -/
theorem mx_imp (l : Launch) {y : MethodName} {bytes : ByteArray} {maxL n0 stop mc ms : Nat} {P : mm_P} {Y : mx_T} {cats : List Nat} (hy : plainName y.cls = true) (hy2 : y.name = "<init>") (hP : mm_Pok l y.cls n0 P) (hY : mx_Xok l y.cls n0 P Y) (hcd : P.1.all (mx_okI bytes maxL P) = true) (hst : decode bytes stop = .ok (.return_, 1)) (h0 : ∃ q r, P.1 = q :: r ∧ q.1 = 0) (h1 : 1 ≤ n0) (hc2 : cats.sum ≤ maxL) : mx_Imp l y bytes maxL n0 mc ms (mx_f P Y cats stop mc ms) := by
  intro D tA φ β z as h N h' hv ha
  refine Met.ofW (cc := bytes) (maxL := maxL) (ret := none) hy rfl ?_
  intro p e s m args below meth c s₁ B hml hpre
  obtain ⟨rfl, ⟨hR, hK⟩, hsz, hX⟩ := hpre
  have hts0 := atoms_spec (ws := Cond.code y bytes maxL none :: mm_tbl) B.pre
  have hown : s.vm.findClass y.cls = some m.cls := findClass_of_methodNamed B.named
  have X : mm_X p s m (as.map (mm_v φ)).toArray c bytes y.cls maxL D tA := ⟨B.exec, B.bytes, hml, hown, fun w hw => hts0 w (List.mem_cons_of_mem _ hw), hK⟩
  have hlocks := B.notSynchronized
  have hr := B.returns
  have hin : meth.name = "<init>" := (name_of_methodNamed B.named B.method).1.trans hy2
  obtain ⟨hcats, res, hrun, r1, r2, r3⟩ := mx_f_inv hv
  have hS : va_S (mm_A z) s.heap s.heap [] := va_S.rf
  have hg : mx_giv l (headSpec (Cond.code y bytes maxL none :: mm_tbl) (mx_rm n0 mc ms)).room s meth y.cls n0 φ β z P Y (N, N + mc, ms) := ⟨⟨hP, hY⟩, ⟨h1, Nat.le_refl _, Nat.le_refl _⟩, hX, ha, ⟨hsz, Nat.le_refl _, Nat.le_refl _⟩, Or.inl hin⟩
  obtain ⟨q0, rr, e0, e1⟩ := h0
  have hZ := mx_in_ok (e := e) (below := below) (Q := MQ below (fun _ st o t => o = .returned none ∧ mm_R D tA φ z h' t t.heap ∧ va_F (mm_A z) st t) (as.map (mm_v φ)).toArray s mc ms (mm_A z)) X hg (fun q hq => List.all_eq_true.mp hcd q hq) (stop := stop) (res := res) (by
    intro hb H locs ls hR1 hS1 hl1
    rw [r1]
    rw [r2] at hR1
    have hb3 : res.2.2.2.2 ≤ ms := hb.2.2
    refine W.widen (k := mc) (n := ms) (show res.2.2.2.1 - N ≤ mc by omega) hb3 ?_
    exact W.vret B.exec B.bytes hr (fun t ht hW => ⟨rfl, by rw [ht]; exact hR1.moved hW.alike (by rw [ht]; exact Nat.le_trans hR.2.2.2.2 hS1.1), hS1.F ht⟩) (fun q hq => hS1.2.2 q hq) hst) 20000 0 P.1 _ [] h N 0 (fun q r e => by
      have e2 := e0.symm.trans e
      cases e2
      refine ⟨e1, ?_, fun x hx => ?_⟩
      · rw [e0]; exact List.mem_cons_self
      · rw [e0]; exact List.mem_cons_of_mem _ hx) ⟨Nat.le_refl _, Nat.le_add_right _ _, Nat.zero_le _⟩ hrun
  rw [show N - (N, N + mc, ms).1 = 0 from Nat.sub_self N] at hZ
  have hix2 : (lg_sl as).length ≤ maxL := by rw [mm_sl_cats, hcats]; exact hc2
  have hl := lv_entry (as.map (mm_v φ)) (n := maxL) (by rw [mm_sl_map]; exact hix2)
  rw [mm_args_map, ← mm_ix_zip, mm_ixc_of, hcats] at hl
  rw [lg_entry_eq]
  exact hZ s.heap [] _ hR hS hl
