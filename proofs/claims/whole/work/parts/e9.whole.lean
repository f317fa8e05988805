/-! THE CLAIM -/
theorem mm_R_fin {D : va_G} {tA : Nat → ClassId} {φ : Nat → Nat} {z : Nat} {s : State} {H : Heap} {L : Nat} {xs : Nat → Int32} (ha : mx_adr φ z z) (hR : mm_R D tA φ z hC s H) (hX : va_X (φ 0) L xs s H) : mm_R D tA φ z (hp (g0 L xs)) s H := by
  have e0 : hp (g0 L xs) 0 = some (.inl (9, L, .inl xs)) := rfl
  have hb0 : φ 0 < z := ha.2 0 (Or.inl rfl)
  have hn : ∀ n c, hp (g0 L xs) n = some c → n < 635 := fun n c hc => by
    by_cases h : n < 635
    · exact h
    · unfold hp at hc
      rw [sh_hi (by omega)] at hc
      cases hc
  refine ⟨fun n c hc hr => ?_, fun n L' xs' hc => ?_, fun n n' c c' hc hc' he => ?_, ⟨635, hn⟩, hR.2.2.2.2⟩
  · by_cases h0 : n = 0
    · subst h0
      cases e0.symm.trans hc
      cases hr
    · obtain ⟨c1, k1, k2⟩ := hC_is h0 hc
      have h2 := hR.1 n c1 k1 (by rw [k2.1]; exact hr)
      exact ⟨k2.2.1 _ _ _ _ _ h2.1, h2.2⟩
  · by_cases h0 : n = 0
    · subst h0
      cases e0.symm.trans hc
      exact ⟨hX, hb0⟩
    · have := hp_ro (by omega) hc
      cases this
  · have b1 := hn n c hc
    have b2 := hn n' c' hc'
    by_cases h0 : n = 0
    · by_cases h0' : n' = 0
      · rw [h0, h0']
      · have := ha.1 n' (by omega) (by omega)
        rw [h0] at he
        omega
    · have := ha.1 n (by omega) (by omega)
      by_cases h0' : n' = 0
      · rw [h0'] at he
        omega
      · have := ha.1 n' (by omega) (by omega)
        omega
theorem whole_start {p : Program} {e : Env} {s : State} {m : MethodId} {below : List Frame} {meth : Method} {c : Code} (l : Launch) (hflags : l.flags = flags0) {b L : Nat} {xs : Nat → Int32} (hL : L ≤ 3584) (C0 : lw_At p s m meth c b L xs) : W p l e room_1 s m #[Value.ref b] below meth c s.heap [] 0 0 (lw_Z below #[Value.ref b] s) (entryFrame m ([Value.ref b] : List Value).toArray 7) := by
  obtain ⟨hx, hb, hr, hml, hown, hts, hX, hbl, hlocks, hgv⟩ := C0
  have hst : l.stackTraces = false := by
    unfold Launch.stackTraces
    rw [hflags]
    decide +kernel
  obtain ⟨D, tA, hK⟩ := st_K hts
  obtain ⟨sa, hsa, hxk⟩ := st_X hts hgv
  have hxr := st_R hts hgv
  obtain ⟨z, hz⟩ : ∃ z, z = s.heap.size := ⟨_, rfl⟩
  rw [← hz] at hxk hxr hsa hbl
  obtain ⟨φ, hφ⟩ : ∃ φ : Nat → Nat, φ = fun n => if n = 0 then b else if n < 1000 then z + n - 1 else sa := ⟨_, rfl⟩
  have f0 : φ 0 = b := by rw [hφ]; rfl
  have f1 : φ 1000 = sa := by rw [hφ]; rfl
  have ha : mx_adr φ z z := by
    refine ⟨fun n h1 h2 => ?_, fun n hn => ?_⟩
    · rw [hφ]
      dsimp only
      rw [if_neg (by omega), if_pos h2]
      omega
    · rw [hφ]
      dsimp only
      rcases hn with rfl | hn
      · exact hbl
      · rw [if_neg (by omega), if_neg (by omega)]
        exact hsa
  have X : mm_X p s m #[Value.ref b] c code RL 7 D tA := ⟨hx, hb, hml, hown, fun w hw => hts w (List.mem_filter.mp hw).1, hK⟩
  have hloop := law_loop (p := p) (l := l) (e := e) (below := below) (φ := φ) (z := z) X hr hlocks hz.symm (L := L) (xs := xs) (fun cells slots G i h1 h2 F hs hi back => t_rank hst X hxr F hs hi ⟨h1, h2⟩ back)
  have h23 := hloop 513 0 634 35150 (g0 L xs) fw0 ⟨rfl, rfl, hL⟩ (by omega) (by omega) (by decide) (by decide)
  have hend : mm_Z p l e room_1 s m #[Value.ref b] below meth c 634 35150 (lw_Z below #[Value.ref b] s) D tA φ z 7 23 [(4, .int 0), (3, .ref 634), (2, .ref 618), (1, .ref 1), (0, .ref 0)] [] hC := by
    intro H locs ls hR hS hl
    refine h23 H locs ls (mm_R_fin ha hR ?_) hS (mm_lv_less hl (fun q hq => ?_))
    · rw [f0]
      exact hX.kept (hS.2.1 b (by rw [← hz]; exact hbl) (Nat.not_le.mpr hbl))
    · have hq : q ∈ ([(0, .ref 0), (1, .ref 1), (2, .ref 618), (3, .ref 634), (4, .int 0)] : mm_L) := hq
      simp only [List.mem_cons, List.not_mem_nil, or_false] at hq ⊢
      rcases hq with rfl | rfl | rfl | rfl | rfl <;> simp
  have h0 := law_pre X (hxk φ f1) ha hz.symm hend
  have hR0 : mm_R D tA φ z (fun _ => none) s s.heap := ⟨fun n c hc => (by cases hc), fun n L xs hc => (by cases hc), fun n n' c c' hc => (by cases hc), ⟨0, fun n c hc => (by cases hc)⟩, Nat.le_of_eq hz⟩
  have hl := lv_entry ([.ref b] : List Value) (n := 7) (Nat.le_of_ble_eq_true rfl)
  rw [lg_entry_eq]
  refine h0 s.heap [] _ hR0 va_S.rf ?_
  show lv_has _ 7 [(0, .ref (φ 0))]
  rw [f0]
  exact hl
set_option maxHeartbeats 4000000 in
theorem lw_walk (l : Launch) (hflags : l.flags = flags0) (b : Addr) (xs : List Int32) : MetFree l x (headSpec (Jvm.Cond.code x code maxLocals ret :: tables_1) room_1) (lw_P b xs) (fun _ _ _ _ _ => True) lw_Q := by
  refine MetFree.of_bodyS (code := code) (maxLocals := maxLocals) (ret := ret) (by decide) ?_ ?_
  · intro args s m h hn
    obtain ⟨meth, c, h1, h2, h3, h4, h5, h6, -, -⟩ := Cond.code_spec hn (atoms_spec (ws := Jvm.Cond.code x code maxLocals ret :: tables_1) h _ List.mem_cons_self)
    exact ⟨meth, c, h1, h2, h3, h4, h5, h6⟩
  · intro p e s m args below meth c s₁ B hml0 hP _
    obtain ⟨rfl, hx, hbd, hgv⟩ := hP
    obtain ⟨scr, harrAt, hlist, hof, hsmall⟩ := hx
    obtain ⟨hcb, hkn, -, -⟩ := State.arrayAt?_spec harrAt
    have hown : s.vm.findClass R_law = some m.cls := findClass_of_methodNamed B.named
    have hts0 : ∀ c ∈ (Jvm.Cond.code x code maxLocals ret :: tables_1), c.before #[Value.ref b] s = true := atoms_spec (ws := Jvm.Cond.code x code maxLocals ret :: tables_1) B.pre
    have hts : ∀ w ∈ lw_tbl, w.before #[Value.ref b] s = true := k2_hts_sels lw_privs (fun w hw => hts0 w (List.mem_cons_of_mem _ hw)) lw_privs_ok
    have hml : c.maxLocals = 7 := B.maxLocals_eq (hts0 _ List.mem_cons_self)
    have X₀ : Stand p l e room_1 s m #[Value.ref b] below meth c s₁ [] 0 0 := Stand.of_body B
    have hh0 : s₁.heap = s.heap := by rw [B.state]; rfl
    have hsz : scr.slots.size = xs.length := by rw [← Array.length_toList, hlist, List.length_map]
    have hval : ∀ j : Nat, j < xs.length → scr.slots[j]? = some (.int (xs.getD j 0)) := fun j hj => by
      rw [← Array.getElem?_toList, hlist]
      simp [hj]
    have hbl : b < s.heap.size := (Array.getElem?_eq_some_iff.mp hcb).1
    have hX : va_X b xs.length (fun j => xs.getD j 0) s s.heap := ⟨scr, hcb, hof, hkn, hsz, hval⟩
    have K : W p l e room_1 s m #[Value.ref b] below meth c s₁.heap [] 0 0 (lw_Z below #[Value.ref b] s) (entryFrame m ([Value.ref b] : List Value).toArray 7) := by
      rw [hh0]
      exact whole_start l hflags hbd ⟨B.exec, B.bytes, B.returns, hml, hown, hts, hX, hbl, B.notSynchronized, hgv⟩
    obtain ⟨t, a1, o, b1, b2, b3⟩ := K s₁ rfl X₀
    exact ⟨t, o, a1, b1, b2, b3⟩
theorem lw_pre_spec {args : Array Value} {s : State} (h : (Jvm.Cond.and given_1 narrow_1).before args s = true) (hr : rest_1_c.before args s = true) : ∃ (b : Addr) (xs : List Int32), lw_P b xs args s := by
  have hs := flat_of_before _ h
  have hq := flat_of_before _ hr
  have hc : (Cond.count 1).before args s = true := hs _ (by decide +kernel)
  have harr : (Cond.arrayOf (.arg 0) .int).before args s = true := hs _ (by decide +kernel)
  have hle : (Cond.le (.length (.arg 0)) (.int 3584)).before args s = true := hs _ (by decide +kernel)
  have hlen : (Cond.isInt (.length (.arg 0))).before args s = true := hq _ (by decide +kernel)
  have hall : (Cond.all (.arg 0) (.isInt (.elem (.arg 0) (.index 0)))).before args s = true := hq _ (by decide +kernel)
  obtain ⟨b, xs, hb, hx⟩ := State.ints_of_pre rfl harr hlen hall
  have hsm : xs.length < 2 ^ 31 := hx.choose_spec.2.2.2
  have hev : (Term.length (.arg 0)).eval args s none [] s = some (.int xs.length.toInt32) := hx.length_eval hb
  have hv := Cond.le_ints hev (show (Term.int 3584).eval args s none [] s = some (.int 3584) from rfl)
  have hd : xs.length.toInt32 ≤ 3584 := by
    simpa [Cond.before, Cond.holds, hv] using hle
  have hN : xs.length ≤ 3584 := (Int32.ofNat_le_ofNat hsm (by decide)).mp (show Int32.ofNat xs.length ≤ Int32.ofNat 3584 from hd)
  exact ⟨b, xs, Cond.one_arg hc (show args[0]? = some (.ref b) from hb), hx, hN, h⟩
theorem lw_comes (l : Launch) (hflags : l.flags = flags0) : Comes l x (Jvm.Cond.code x code maxLocals ret :: tables_1) room_1 (fun tb e args s => Calls_1 tb e args s ∧ rest_1 tb e args s ∧ Pre_1 tb e args s)
    (fun _ _ args s o t => lw_Q args s o t) := by
  intro p e ha hc hk s m args below hf hfit hheap happ hpre
  obtain ⟨b, xs, hP⟩ := lw_pre_spec hpre.2.2 hpre.2.1
  obtain ⟨k, o, h1, h2, h3, hQ⟩ := lw_walk l hflags b xs p e ha hc hk s m args below hf ((Spec.applies_iff_loose hf).mp happ).1 hP trivial
  exact ⟨k, o, h1, h2, h3, hQ⟩
theorem lw_frame {s t : State} {o : Outcome} {args : Array Value} (h : Framed s o t [] 601024 7293034) :
    Framed s o t (fieldLocs frame_1_writes args s ++ arrayLocs frame_1_arrays args s ++ staticLocs frame_1_statics s) 601024 7293034 := h
theorem lw_limb (L : Cond) (hL : ∀ (args : Array Value) (s t : State), L.after args s (.returned (some (.int 1))) t = true) :
    ArmFor flags0 classFile x code maxLocals ret World_1 tables_1 room_1 Calls_1 rest_1 Pre_1
      (fun tb e a s o t => postC L tb e a s o t ∧ Framed s o t (fieldLocs frame_1_writes a s ++ arrayLocs frame_1_arrays a s ++ staticLocs frame_1_statics s) 601024 7293034) := by
  intro l hflags _ _ p e ha hc hk s m args below hf hfit hheap happ hpre
  obtain ⟨k, o, h1, h2, h3, rfl, hF⟩ := lw_comes l hflags p e ha hc hk s m args below hf hfit hheap happ hpre
  exact ⟨k, _, h1, h2, h3, hL args s _, lw_frame hF⟩
theorem i_vc : Claimed_1_1 ∧ Claimed_1_2 := ⟨lw_limb limb_1_1 (fun args s t => by simp [limb_1_1, Cond.after, Cond.holds, Cond.value]), lw_limb limb_1_2 (fun args s t => Cond.after_iff.mpr (by
  first | (rw [show limb_1_2 = Cond.eq .result (.int 1) from rfl, Cond.eq_ints (x := 1) (y := 1) rfl rfl]; simp; done) | (simp [limb_1_2, Cond.value, Term.eval]; done)))⟩
