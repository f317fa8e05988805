/-! THE LAW, from its entry to its loop -/
theorem xS.narrow {φ : Nat → Nat} {z z' : Nat} {U : State} (hz : z ≤ z') (h : xS φ z U) : xS φ z' U := by
  obtain ⟨h3, h4, h5, ⟨t, h6, h7⟩, h8, h9⟩ := h
  have hA : ∀ q, mm_A z' q → mm_A z q := fun q hq => Nat.le_trans hz hq
  exact ⟨h3, h4.narrow hA, h5.narrow hA, ⟨t, h6.narrow hA, h7.narrow hA⟩, h8.narrow hA, va_Zq.narrow h9 hA⟩
theorem xK.narrow {φ : Nat → Nat} {z z' : Nat} {U : State} (hz : z ≤ z') (h : xK φ z U) : xK φ z' U := ⟨h.1, h.2.narrow hz⟩
section PRE
variable {p : Program} {l : Launch} {e : Env} {R : Room} {s : State} {m : MethodId} {args : Array Value} {below : List Frame} {meth : Method} {c : Code} {cells slots : Nat} {Q : State → Prop}
variable {D : va_G} {tA : Nat → ClassId} {φ : Nat → Nat} {β z : Nat} {cc : ByteArray} {own : String} {nL n0 : Nat} {h : mm_H} {H : Heap} {locs : List Loc}
/-- one plain instruction -/
theorem mm_step {P : mm_P} (X : mm_X p s m args c cc own nL D tA) (hP : mm_Pok l own n0 P) (hRo : n0 ≤ R.frames ∧ 40 * n0 ≤ R.locals) (hf : cells ≤ R.cells ∧ slots ≤ R.slots) {q : mm_I} (hq : mm_okI cc nL P q = true) {lv lv' : mm_L} {st st' : List Value} {h' : mm_H} {pc' : Nat}
    (hv : mm_st P (fun _ _ => none) (fun pc lv st h => some (pc, lv, st, h)) q lv st h = some (pc', lv', st', h')) (k : mm_Z p l e R s m args below meth c cells slots Q D tA φ z nL pc' lv' st' h') : mm_Z p l e R s m args below meth c cells slots Q D tA φ z nL q.1 lv st h :=
  mm_st_ok X mm_cls_ok mm_sys_ok hP hRo hf (kr := fun _ _ => none) (fun r h hh => by cases hh) (fun pc lv st h hh => by cases hh; exact k) hq hv
/-- a constructor's call, whatever its cells are -/
theorem mx_rctor (X : mm_X p s m args c cc own nL D tA) {pc i k mc ms : Nat} {y : MethodName} {bytes : ByteArray} {maxL n : Nat} {Bp : State → Prop} {Qp : State → State → Prop} {ls : Array Slot} {as st : List Value} {b : Nat}
    (hM : Met l y (Cond.code y bytes maxL none :: mm_tbl) (mx_rm n mc ms) (va_Pc ((Value.ref b :: as).map (mm_v φ)) Bp) (fun _ st o t => o = .returned none ∧ Qp st t) mc ms (mm_A z)) (hbl : ∀ U g mk a, Bp U → Bp (U.calling g mk a))
    (hRo : n + 1 ≤ R.frames ∧ 16 + (maxL + 11) + 40 * n ≤ R.locals) (hy : mm_yok y k = true) (hy2 : y.name = "<init>")
    (h1 : Cond.methodLink own i y ∈ mm_tbl) (h2 : Cond.instanceMethod y ∈ mm_tbl) (h3 : Cond.initialized y.cls ∈ mm_tbl) (h4 : Cond.code y bytes maxL none ∈ mm_tbl) (hf : cells + mc ≤ R.cells ∧ slots + ms ≤ R.slots)
    (hls : ls.size = nL) (hn : as.length = k) (hwt : mm_wt st ≤ 16) (hdg : decode cc pc = .ok (.invokespecial i, 3)) (hpre : ∀ U : State, U.heap = H → s.WarmedH U.vm → Bp U) :
    va_Run p l e R s m args below meth c H locs cells slots mc ms (F0 m pc ls ((as.reverse ++ .ref b :: st).map (mm_v φ))) (st.map (mm_v φ)) (fun st o t => o = .returned none ∧ Qp st t) (mm_A z) := by
  obtain ⟨hx, hb, hml, hown, hts, hK⟩ := X
  simp only [mm_yok, Bool.and_eq_true, decide_eq_true_eq] at hy
  have hst : (as.reverse ++ .ref b :: st).map (mm_v φ) = (as.map (mm_v φ)).reverse ++ .ref (φ b) :: st.map (mm_v φ) := by simp [List.map_reverse, mm_v]
  have hwt2 : 2 * 0 + ((st.map (mm_v φ)).map fun v => v.category).sum ≤ 16 := by rw [mm_wt_map]; omega
  have hlen : ∀ sig, parseMethodDescriptor y.desc = some sig → (as.map (mm_v φ)).length = sig.parameters.length := fun sig hs => by
    have h5 := hy.2
    rw [hs] at h5
    rw [List.length_map, hn]
    exact (Option.some.inj h5).symm
  have hG : GoodIn mm_tbl (Cond.code y bytes maxL none :: mm_tbl) := mm_good_ws (fun v hv => by
    rcases List.mem_cons.mp hv with rfl | hv
    · exact h4
    · exact hv)
  have hbl2 : FrameBlind (va_Pc ((Value.ref b :: as).map (mm_v φ)) Bp) := by
    intro a U g mk hq
    exact ⟨hq.1, hbl U g mk a hq.2⟩
  have hBk : Back l R p e below s args y 3 16 (PreOf R mc ms (va_Pc ((Value.ref b :: as).map (mm_v φ)) Bp)) (PostOf (fun _ st o t => o = .returned none ∧ Qp st t) mc ms (mm_A z)) :=
    back_of (bytes := bytes) (maxL := maxL) (ret := none) hM hbl2 rfl rfl hRo.1 hRo.2 (pay_in hts hG) List.mem_cons_self (fun a' U hW => word_at hW (mm_tbl_good _ h3) (hts _ h3))
  intro T hT X1
  obtain ⟨v, vm₁, ⟨U', l2, c2, s2⟩, hW₁, X', ⟨g', mk, t, L, e1, e2, hq, q1, hL, q2, q3⟩, st1⟩ := callI X1 hx (bytes := bytes) (maxL := maxL) hown hy2 (hts _ h1) (hts _ h2) (hts _ h4) ⟨hy.1.1, hy.1.2⟩ hBk (g := F0 m pc ls ((as.reverse ++ .ref b :: st).map (mm_v φ))) rfl (hls.trans hml.symm) (a := φ b) (argsL := as.map (mm_v φ)) (rest := st.map (mm_v φ)) hlen hst hwt2 (by rw [hb]; exact hdg) (fun vm₁ hW₁ => ⟨hf.1, hf.2, rfl, hpre (T.setVm vm₁) hT hW₁⟩)
  dsimp only [Pt.U, Pt.locs, Pt.cells, Pt.slots] at X' e1 e2 q1 q2 q3 st1
  subst q1; subst q2; subst q3
  exact ⟨v, (T.setVm vm₁).calling g' mk (Value.ref (φ b) :: as.map (mm_v φ)).toArray, t, U', L, hT, X', hL, e1, e2, hq, st1⟩
end PRE
theorem mx_live_of {h : mm_H} {n m : Nat} {c : mm_C} (hm : m = n + 2) (hc : h (m - 1) = some c) (hr : mm_ro c = false) : mx_live h m = true := by
  subst hm
  have hc : h (n + 1) = some c := hc
  unfold mx_live
  simp only [hc, hr]
  rfl
theorem hA_live : mx_live hA 618 = true := by
  obtain ⟨c, c2, k1, k2, k3⟩ := ckc_ok (hA_ck (n := 617) (by decide) (by decide))
  have h1 := hp_ro (n := 617) (by decide) k2
  exact mx_live_of (n := 616) rfl k1 ((k3 h1).1.trans h1)
theorem hB_633 : hB 633 = hM 633 := by
  have h1 : ¬ 633 < 618 := by decide
  have h2 : 633 < 634 := by decide
  unfold hB
  rw [if_neg h1, if_pos h2]
theorem hB_live : mx_live hB 634 = true := by
  obtain ⟨c, k1, k2⟩ := ckA_ok (hM_ar (n := 633) (by decide) (by decide))
  have h1 := hp_ro (n := 633) (by decide) k2
  exact mx_live_of (n := 632) rfl (hB_633.trans k1) h1
def pl0 : mm_P := ([(3, .dup, 1, 0), (7, .astore_n 1, 1, 0), (11, .dup, 1, 0), (15, .astore_n 2, 1, 0), (16, .iconst 1, 1, 1), (19, .astore_n 3, 1, 0), (20, .iconst 0, 1, 0), (21, .istore 4, 2, 0)], [], [], [], [], [], [], 1)
theorem ok_l0 (l : Launch) : mm_Pok l RL 13 pl0 := mm_Pok_of (fun _ h => absurd h List.not_mem_nil) (fun _ h => absurd h List.not_mem_nil) (fun _ h => absurd h List.not_mem_nil) (fun _ h => absurd h List.not_mem_nil)
theorem cd_l0 : pl0.1.all (mm_okI code 7 pl0) = true := by decide +kernel
theorem dl_0 : decode code 0 = .ok (.new 8, 3) := by decide +kernel
theorem dl_4 : decode code 4 = .ok (.invokespecial 15, 3) := by decide +kernel
theorem dl_8 : decode code 8 = .ok (.new 16, 3) := by decide +kernel
theorem dl_12 : decode code 12 = .ok (.invokespecial 18, 3) := by decide +kernel
theorem dl_17 : decode code 17 = .ok (.newarray .long, 2) := by decide +kernel
section PR2
variable {p : Program} {l : Launch} {e : Env} {s : State} {m : MethodId} {args : Array Value} {below : List Frame} {meth : Method} {c : Code} {cells slots : Nat} {Q : State → Prop}
variable {D : va_G} {tA : Nat → ClassId} {φ : Nat → Nat} {z : Nat} {H : Heap} {locs : List Loc}
/-- both together -/
theorem mm_R_both {t : State} {H1 : Heap} {o : mm_C} (ha : mx_adr φ z z) (hR : mm_R D tA φ z (mm_up hA 618 o) s H) (hM1 : mm_R D tA φ (φ 618) hM t H1) (hk : ∀ q : Nat, q < H.size → ¬ mm_A (φ 618) q → H1[q]? = H[q]?) : mm_R D tA φ z hB s H1 := by
  have a618 : φ 618 + 1 = z + 618 := ha.1 618 (by decide) (by decide)
  have hz := hR.2.2.2.2
  have low : ∀ n c, n < 618 → hA n = some c → mm_up hA 618 o n = some c := fun n c hn hc => by
    unfold mm_up
    rw [if_neg (by omega)]
    exact hc
  have alow : ∀ n, n < 618 → φ n < φ 618 := fun n hn => by
    by_cases h0 : n = 0
    · have := ha.2 n (Or.inl h0)
      omega
    · have := ha.1 n (by omega) (by omega)
      omega
  refine ⟨fun n c hc hr => ?_, fun n L xs hc => ?_, fun n n' c c' hc hc' he => ?_, ⟨634, fun n c hc => ?_⟩, hz⟩
  · unfold hB at hc
    by_cases h1 : n < 618
    · rw [if_pos h1] at hc
      have h2 := hR.1 n c (low n c h1 hc) hr
      exact ⟨h2.1.kept (hk _ h2.1.lt (Nat.not_le.mpr (alow n h1))), h2.2⟩
    · rw [if_neg h1] at hc
      by_cases h2 : n < 634
      · rw [if_pos h2] at hc
        have h3 := hM1.1 n c hc hr
        exact ⟨h3.1, by have := h3.2; omega⟩
      · rw [if_neg h2] at hc
        cases hc
  · unfold hB at hc
    by_cases h1 : n < 618
    · rw [if_pos h1] at hc
      obtain ⟨x1, x2⟩ := hR.2.1 n L xs (low n _ h1 hc)
      have hb : φ n < H.size := by
        obtain ⟨scr, y1, -⟩ := x1
        exact (Array.getElem?_eq_some_iff.mp y1).1
      exact ⟨x1.kept (hk _ hb (Nat.not_le.mpr (alow n h1))), x2⟩
    · rw [if_neg h1] at hc
      by_cases h2 : n < 634
      · rw [if_pos h2] at hc
        obtain ⟨x1, x2⟩ := hM1.2.1 n L xs hc
        have := ha.1 n (by omega) (by omega)
        omega
      · rw [if_neg h2] at hc
        cases hc
  · have b : ∀ n c, hB n = some c → n < 634 := fun n c hc => by
      unfold hB at hc
      by_cases h1 : n < 618
      · omega
      · rw [if_neg h1] at hc
        by_cases h2 : n < 634
        · exact h2
        · rw [if_neg h2] at hc
          cases hc
    have b1 := b n c hc
    have b2 := b n' c' hc'
    by_cases h0 : n = 0
    · by_cases h0' : n' = 0
      · rw [h0, h0']
      · have := ha.2 n (Or.inl h0)
        have := ha.1 n' (by omega) (by omega)
        omega
    · have := ha.1 n (by omega) (by omega)
      by_cases h0' : n' = 0
      · have := ha.2 n' (Or.inl h0')
        omega
      · have := ha.1 n' (by omega) (by omega)
        omega
  · unfold hB at hc
    by_cases h1 : n < 618
    · omega
    · rw [if_neg h1] at hc
      by_cases h2 : n < 634
      · exact h2
      · rw [if_neg h2] at hc
        cases hc
theorem law_pre (X : mm_X p s m args c code RL 7 D tA) (hK0 : xK φ z s) (ha : mx_adr φ z z) (hz : s.heap.size = z)
    (k : mm_Z p l e room_1 s m args below meth c 634 35150 Q D tA φ z 7 23 [(4, .int 0), (3, .ref 634), (2, .ref 618), (1, .ref 1), (0, .ref 0)] [] hC) : mm_Z p l e room_1 s m args below meth c 0 0 Q D tA φ z 7 0 [(0, .ref 0)] [] (fun _ => none) := by
  have hcd : ∀ q ∈ pl0.1, mm_okI code 7 pl0 q = true := fun q hq => List.all_eq_true.mp cd_l0 q hq
  have hRo : 13 ≤ room_1.frames ∧ 40 * 13 ≤ room_1.locals := ⟨by decide, by decide⟩
  have rc : room_1.cells = 601024 := rfl
  have rs : room_1.slots = 7293034 := rfl
  have a618 : φ 618 + 1 = z + 618 := ha.1 618 (by decide) (by decide)
  -- 21, 20, 19
  have k21 := mm_step (h := hC) (lv := [(3, .ref 634), (2, .ref 618), (1, .ref 1), (0, .ref 0)]) (st := [.int 0]) X (ok_l0 l) hRo ⟨by rw [rc]; decide, by rw [rs]; decide⟩ (hcd (21, .istore 4, 2, 0) (by simp [pl0])) rfl k
  have k20 := mm_step (h := hC) (lv := [(3, .ref 634), (2, .ref 618), (1, .ref 1), (0, .ref 0)]) (st := []) X (ok_l0 l) hRo ⟨by rw [rc]; decide, by rw [rs]; decide⟩ (hcd (20, .iconst 0, 1, 0) (by simp [pl0])) rfl k21
  have k19 := mm_step (h := hC) (lv := [(2, .ref 618), (1, .ref 1), (0, .ref 0)]) (st := [.ref 634]) X (ok_l0 l) hRo ⟨by rw [rc]; decide, by rw [rs]; decide⟩ (hcd (19, .astore_n 3, 1, 0) (by simp [pl0])) rfl k20
  have k17 : mm_Z p l e room_1 s m args below meth c 633 35149 Q D tA φ z 7 17 [(2, .ref 618), (1, .ref 1), (0, .ref 0)] [.int 1] hB := mx_znewa (N := 634) (cl := (1, 1, .inr (.inl (fun _ => 0)))) X mx_aok_ok ha rfl (by decide) (by decide) (by omega) ⟨by decide, by decide⟩ (Or.inr hB_live) ⟨by rw [rc]; decide, by rw [rs]; decide⟩ dl_17 k19
  have k16 := mm_step (h := hB) (lv := [(2, .ref 618), (1, .ref 1), (0, .ref 0)]) (st := []) X (ok_l0 l) hRo ⟨by rw [rc]; decide, by rw [rs]; decide⟩ (hcd (16, .iconst 1, 1, 1) (by simp [pl0])) rfl k17
  have k15 := mm_step (h := hB) (lv := [(1, .ref 1), (0, .ref 0)]) (st := [.ref 618]) X (ok_l0 l) hRo ⟨by rw [rc]; decide, by rw [rs]; decide⟩ (hcd (15, .astore_n 2, 1, 0) (by simp [pl0])) rfl k16
  -- 12: the reference's constructor
  have k12 : ∀ o : mm_C, hM0 618 = some o → mm_Z p l e room_1 s m args below meth c 618 20536 Q D tA φ z 7 12 [(1, .ref 1), (0, .ref 0)] [.ref 618, .ref 618] (mm_up hA 618 o) := by
    intro o ho H locs ls hR hS hls
    refine mx_W (fun h1 => ?_)
    have hro : mm_ro o = false := by cases ho; rfl
    have hsz := mx_size (N := 619) ha hR hS h1 (by omega) ⟨by decide, by decide⟩ (Or.inr (by cases ho; rfl))
    have a619 : φ 619 + 1 = z + 619 := ha.1 619 (by decide) (by decide)
    have hat := hR.1 618 o (by unfold mm_up; rw [if_pos rfl]) hro
    refine va_forget (fun q hq => by rw [hz]; exact hS.2.2 q hq) ?_
    have hadr : mx_adr φ z (φ 618) := ⟨ha.1, fun n hn => by have := ha.2 n hn; omega⟩
    have hr := mx_rctor (p := p) (e := e) (R := room_1) (s := s) (m := m) (args := args) (below := below) (meth := meth) (c := c) (cells := 618) (slots := 20536) (H := H) (locs := []) (ls := ls) (pc := 12) (b := 618) (as := []) (st := [.ref 618]) X (ii_Md l D tA φ z (φ 618) [.ref 618] hM0 619 hM hM_is hadr)
      (fun U g mk a hq => ⟨⟨mm_R.moved (s := U) (u := U.calling g mk a) (Vm.Alike.refl U.vm) hq.1.1.2.2.2.2 hq.1.1, mm_K.same (s := U) (U := U.calling g mk a) rfl hq.1.2⟩, hq.2.1, xK.same (s := U) (U := U.calling g mk a) rfl rfl hq.2.2⟩)
      ⟨by decide, by decide⟩ (show mm_yok yX12_init 0 = true by decide +kernel) rfl q_1688 q_1689 q_179 q_1690 ⟨by rw [rc]; decide, by rw [rs]; decide⟩ hls.1 rfl (by decide) dl_12
      (fun U hU hW => ⟨⟨⟨fun n c hc hr => ?_, fun n L xs hc => ?_, fun n n' c c' hc hc' he => ?_, ⟨619, fun n c hc => ?_⟩, ?_⟩, mm_K.warm hW X.2.2.2.2.2⟩, by rw [hU, hsz]; exact a619, (hK0.at hW (by rw [hU]; exact hS.2.1)).narrow (by omega)⟩)
    · intro T hT X1
      obtain ⟨v', st₀, t, T', L, h0, X', hL, e1, e2, ⟨hv, hRt, hz1, hkp⟩, st⟩ := hr T hT X1
      cases hv
      rw [h0] at hz1 hkp
      obtain ⟨t2, a1, b1⟩ := k15 T'.heap ([] ++ L) ls (by rw [e1]; exact mm_R_both ha hR hRt hkp)
        ⟨Nat.le_trans hS.1 (by rw [e1]; exact hz1), fun q g1 g2 => by
          rw [e1, hkp q (Nat.lt_of_lt_of_le g1 hS.1) (fun g => g2 (by have g : φ 618 ≤ q := g; show z ≤ q; omega))]
          exact hS.2.1 q g1 g2, fun q hq => by
          have := hL q hq
          show z ≤ q.base
          have g : φ 618 ≤ q.base := this
          omega⟩ hls T' rfl X'
      exact ⟨t2, st t2 a1, b1⟩
    · have hn : n = 618 := by
        by_cases g : n = 618
        · exact g
        · unfold hM0 mm_up at hc
          rw [if_neg g] at hc
          cases hc
      subst hn
      cases ho.symm.trans hc
      rw [hU]
      exact ⟨hat.1, Nat.le_refl _⟩
    · unfold hM0 mm_up at hc
      split at hc <;> cases hc
    · have g : ∀ n c, hM0 n = some c → n = 618 := fun n c hc => by
        by_cases g : n = 618
        · exact g
        · unfold hM0 mm_up at hc
          rw [if_neg g] at hc
          cases hc
      rw [g n c hc, g n' c' hc']
    · by_cases g : n = 618
      · omega
      · unfold hM0 mm_up at hc
        rw [if_neg g] at hc
        cases hc
    · rw [hU]
      have : φ 618 < H.size := hat.1.lt
      omega
  have k11 := mm_step (h := _) (lv := [(1, .ref 1), (0, .ref 0)]) (st := [.ref 618]) X (ok_l0 l) hRo ⟨by rw [rc]; decide, by rw [rs]; decide⟩ (hcd (11, .dup, 1, 0) (by simp [pl0])) rfl (k12 _ rfl)
  have k8 : mm_Z p l e room_1 s m args below meth c 617 20509 Q D tA φ z 7 8 [(1, .ref 1), (0, .ref 0)] [] hA := mx_znew (N := 618) X mm_cls_ok ha bn_12 ⟨RX12, TX12, 27, rfl, q_1687⟩ (by omega) ⟨by decide, by decide⟩ (Or.inr hA_live) ⟨by rw [rc]; decide, by rw [rs]; decide⟩ dl_8 k11
  have k7 := mm_step (h := hA) (lv := [(0, .ref 0)]) (st := [.ref 1]) X (ok_l0 l) hRo ⟨by rw [rc]; decide, by rw [rs]; decide⟩ (hcd (7, .astore_n 1, 1, 0) (by simp [pl0])) rfl k8
  have k4 : mm_Z p l e room_1 s m args below meth c 1 16 Q D tA φ z 7 4 [(0, .ref 0)] [.ref 1, .ref 1] hA0 := mx_zctor (N := 2) (k := 0) (as := []) (st := [.ref 1]) (b := 1) X hK0 ha (ii_Ls l) ⟨by decide, by decide⟩ (by decide +kernel) rfl (Or.inl q_189) q_190 q_163 q_191 ⟨by rw [rc]; decide, by rw [rs]; decide⟩ (by omega) ⟨by decide, by decide⟩ (Or.inr rfl) rfl (by decide) hA_is dl_4 k7
  have k3 := mm_step (h := hA0) (lv := [(0, .ref 0)]) (st := [.ref 1]) X (ok_l0 l) hRo ⟨by rw [rc]; decide, by rw [rs]; decide⟩ (hcd (3, .dup, 1, 0) (by simp [pl0])) rfl k4
  exact mx_znew (N := 1) X mm_cls_ok ha bn_11 ⟨RX11, TX11, 16, rfl, q_187⟩ (by omega) ⟨by decide, by decide⟩ (Or.inl rfl) ⟨by rw [rc]; decide, by rw [rs]; decide⟩ dl_0 k3
end PR2
