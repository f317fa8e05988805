/-! THE LAW: a turn with rank -/
theorem dl_1051 : decode code 1051 = .ok (.invokestatic 121, 3) := by decide +kernel
theorem MX.out {G G' : GG} {B : TB} {K : List LI} {S : List Nat} {A : AS} {U : List AS} {cu : CU} (M : MX G B K S A U cu) (h4 : (tIx B).length ≤ 4) (e : ∀ n, 618 ≤ n → n ≤ 633 → G'.1 n = G.1 n ∧ G'.2.1 n = G.2.1 n ∧ G'.2.2 n = G.2.2 n) : MX G' B K S A U cu :=
  M.rd h4 ⟨fun n a => (e n (by omega) (by omega)).1, (e 623 (by decide) (by decide)).2.1, fun k _ _ => by rw [(e 618 (by decide) (by decide)).1], fun k _ => by rw [(e 624 (by decide) (by decide)).1], fun k _ => by rw [(e 625 (by decide) (by decide)).1], fun k _ => by rw [(e 626 (by decide) (by decide)).2.1]⟩ (M.2.1.1.off (by rw [(e 618 (by decide) (by decide)).1]) (e 619 (by decide) (by decide)).1)
theorem lg_cmp_self (v : Int64) : lg_cmp v v = 0 := by
  unfold lg_cmp
  simp
section RTN
variable {p : Program} {l : Launch} {e : Env} {s : State} {m : MethodId} {args : Array Value} {below : List Frame} {meth : Method} {c : Code} {cells slots : Nat} {Q : State → Prop}
variable {D : va_G} {tA : Nat → ClassId} {φ : Nat → Nat} {z : Nat}
theorem law_lr (X : mm_X p s m args c code RL 7 D tA) (hx : xR z s) {x y r : Int32} {h h' : mm_H} (hM : Met l yL_rank wsLr (mx_rm 8 1 6) (xPc D tA φ z h [.ref 1, .int x, .int y, .ref 634]) (lrQ D tA φ z r h') 1 6 (mm_A z)) (hf : cells + 1 ≤ room_1.cells ∧ slots + 6 ≤ room_1.slots) {lv : mm_L}
    (k : mm_Z p l e room_1 s m args below meth c (cells + 1) (slots + 6) Q D tA φ z 7 1054 lv [.int r] h') : mm_Z p l e room_1 s m args below meth c cells slots Q D tA φ z 7 1051 lv [.ref 634, .int y, .int x, .ref 1] h := by
  intro H locs ls hR hS hl
  obtain ⟨hx0, hb, hml, hown, hts, hK⟩ := X
  have hG : GoodIn mm_tbl wsLr := mm_good_ws (fun v hv => by
    rcases List.mem_cons.mp hv with rfl | hv
    · exact x_cw
    · exact hv)
  have hlen : ∀ sig, parseMethodDescriptor yL_rank.desc = some sig → 4 = sig.parameters.length := fun sig hs => by
    have h5 : (parseMethodDescriptor yL_rank.desc).map (fun d => d.parameters.length) = some 4 := by decide +kernel
    rw [hs] at h5
    exact (Option.some.inj h5).symm
  have hr := vx_runSW (p := p) (e := e) (R := room_1) (below := below) (meth := meth) (H := H) (locs := locs) (cells := cells) (slots := slots) (index := 121) (As := [.ref (φ 1), .int x, .int y, .ref (φ 634)]) (rest := []) (g := F0 m 1051 ls [.ref (φ 634), .int y, .int x, .ref (φ 1)]) (Ts := mm_tbl) (hh := [(0, 10, 13, 13)]) (bytes := cL_rank) (maxL := 5) (ret := some .int) (n := 4) (nL := 7)
    ⟨hx0, hb, hml, hown, hts⟩ hM ⟨⟨rfl, rfl, by decide, by decide, pay_in hts hG, List.mem_cons_self⟩, hts _ x_cw, hts _ x_il, ⟨by decide, by decide⟩, hlen, hts _ q_1601, hts _ x_st⟩ ⟨xPc_bl, xPc_pre (as := [.ref 1, .int x, .int y, .ref 634]) hK hx hR hS⟩ rfl rfl hl.1 rfl (show 2 * 0 + 0 ≤ 8 by decide) dl_1051 hf
  exact mx_called hR.2.2.2.2 hr hS (fun H1 locs1 hR1 hS1 => k H1 locs1 ls hR1 hS1 hl)
theorem t_rank (hflag : l.stackTraces = false) (X : mm_X p s m args c code RL 7 D tA) (hx : xR z s) {G : GG} {L i : Nat} {xs : Nat → Int32} (F : FW G) (hs : scr G L xs) (hi : i + 7 ≤ L) (hf : cells + 1 ≤ room_1.cells ∧ slots + 6 ≤ room_1.slots)
    (back : ∀ G', FW G' → scr G' L xs → mm_Z p l e room_1 s m args below meth c (cells + 1) (slots + 6) Q D tA φ z 7 2034 (List.zip [0, 1, 2, 3, 4] (lvs i)) [] (hp G')) : mm_Z p l e room_1 s m args below meth c cells slots Q D tA φ z 7 1037 (List.zip [0, 1, 2, 3, 4] (lvs i)) [] (hp G) := by
  obtain ⟨p0, q0, l0, m0, B, K, S, A, U, cu, c2, C, M, hb, hc⟩ := F
  have s1 : mm_li (hp G) 0 (nI i + 1) = some (xs (i + 1)) := hs.rd (k := 1) (by omega)
  have s2 : mm_li (hp G) 0 (nI i + 2) = some (xs (i + 2)) := hs.rd (k := 2) (by omega)
  have e1 : mm_one p_law kNon kOne 1037 (lvs i) [] (hp G) = some (1051, lvs i, [.ref 634, .int (xs (i + 2)), .int (xs (i + 1)), .ref 1], hp G) := by
    unfold lvs
    rw [o_law_1037, s1, Option.bind_some, s2, Option.bind_some]
    rfl
  refine law_go X ⟨by omega, by omega⟩ e1 ?_
  cases hbk : rnkB (pOf B) A (xs (i + 1)) (xs (i + 2)) with
  | false =>
    have hv := k_rank_f C.1 hbk kNon kOne
    refine law_lr X hx (c_lr_f l hflag D tA φ z (ob_Ls G) hv) hf ?_
    obtain ⟨G2, r1, r2, r3⟩ := (r_rank M.1 (xs (i + 1)) (xs (i + 2))).2 hbk
    have z2 : fixM G G2 := r2.fix
    have e2 : mm_one p_law kNon kOne 1054 (lvs i) [.int 1] (hp G) = some (2034, lvs i, [], hp G2) := by
      unfold lvs
      rw [o_law_1054, s1, Option.bind_some, s2, Option.bind_some, r1, ci_some, e_Md_thrown 618 _ (ob_Md G2), gg_Md_thrown, Option.bind_some, ci_some, r3, if_pos rfl, if_neg (by decide)]
      rfl
    exact law_go X hf e2 (back G2 ⟨p0, q0, l0, m0, B, K, S, A, U, cu, c2, C.high z2.hi (fun n hn => hn.1), M.of r2, hb, hc⟩ (hs.in1 (z2.hi.mono (fun n hn => mR_in hn))))
  | true =>
    have hv := k_rank_t C.1 hbk
    obtain ⟨N, hN⟩ : ∃ N, N = nI (rnkN (pOf B) A (xs (i + 1)).toNatClampNeg (xs (i + 2)).toNatClampNeg) := ⟨_, rfl⟩
    rw [← hN] at hv
    have hsl : mm_sl (hp G) 634 0 N.toInt64 = some (hp (gsl G 634 0 N.toInt64)) := hp_sl (n := 634) (len := 1) (i := 0) rfl (by decide) (by decide)
    refine law_lr X hx (c_lr_t l D tA φ z hv hsl) hf ?_
    obtain ⟨G1, hG1⟩ : ∃ G1, G1 = gsl G 634 0 N.toInt64 := ⟨_, rfl⟩
    rw [← hG1]
    have off : ∀ n, n ≠ 634 → G1.1 n = G.1 n ∧ G1.2.1 n = G.2.1 n ∧ G1.2.2 n = G.2.2 n := fun n hn => by
      rw [hG1]
      exact ⟨rfl, by show (if n = 634 then _ else _) = _; rw [if_neg hn], rfl⟩
    have v634 : G1.2.1 634 0 = N.toInt64 := by
      rw [hG1]
      show (if (634 : Nat) = 634 then vp_updL (G.2.1 634) 0 N.toInt64 else G.2.1 634) 0 = _
      rw [if_pos rfl]
      simp [vp_updL]
    have C1 : CX G1 p0 q0 l0 m0 B K S A U cu := C.high (Q := fun n => n = 634) (fun n hn => off n hn) (fun n hn => by rw [hn]; decide)
    have M1 : MX G1 B K S A U c2 := M.out hb.1.2.1.1 (fun n h1 h2 => off n (by omega))
    have hs1 : scr G1 L xs := by
      have h0 := off 0 (by decide)
      exact ⟨by rw [h0.2.2]; exact hs.1, by rw [h0.1]; exact hs.2.1, hs.2.2⟩
    have s1 : mm_li (hp G1) 0 (nI i + 1) = some (xs (i + 1)) := hs1.rd (k := 1) (by omega)
    have s2 : mm_li (hp G1) 0 (nI i + 2) = some (xs (i + 2)) := hs1.rd (k := 2) (by omega)
    obtain ⟨G2, r1, r2, r3⟩ := (r_rank M1.1 (xs (i + 1)) (xs (i + 2))).1 hbk
    rw [← hN] at r1
    have z2 : fixM G1 G2 := r2.fix
    have hll : mm_ll (hp G2) 634 0 = some N.toInt64 := by
      have h := hp_ll (G := G2) (n := 634) (len := 1) (i := 0) rfl (by decide) (by decide)
      rw [z2.2.1, v634] at h
      exact h
    have e2 : mm_one p_law kNon kOne 1054 (lvs i) [.int 0] (hp G1) = some (2034, lvs i, [], hp G2) := by
      unfold lvs
      rw [o_law_1054, s1, Option.bind_some, s2, Option.bind_some, r1, ci_some, e_Md_thrown 618 _ (ob_Md G2), gg_Md_thrown, Option.bind_some, ci_some, r3, if_pos rfl, if_pos rfl, hll, Option.bind_some, lg_cmp_self, if_pos rfl]
      rfl
    exact law_go X hf e2 (back G2 ⟨p0, q0, l0, m0, B, K, S, A, U, cu, c2, C1.high z2.hi (fun n hn => hn.1), M1.of r2, hb, hc⟩ (hs1.in1 (z2.hi.mono (fun n hn => mR_in hn))))
end RTN
