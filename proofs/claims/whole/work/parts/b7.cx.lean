/-! THE CLASS: its whole world; feed, table, work -/
def feedS (S : List Nat) (a b c : Int64) : List Nat := layV (layV (layV S a) b) c
def clR (n : Nat) : Prop := 1 ≤ n ∧ n < 618
section CXS
variable {G G' Z : GG} {p q l m : Nat} {P : PP} {T : TT} {A : AS} {U : List AS} {cu : CU} {B : TB} {K : List LI} {S : List Nat}
theorem CW.off {Q : Nat → Prop} (W : CW Z G p P T A U cu) (hq : eqOff Q G G') (hQ : ∀ n, Q n → n ≠ 37 ∧ ¬ (p ≤ n ∧ n ≤ p + 20) ∧ ¬ (86 ≤ n ∧ n < 618)) (e1 : G'.1 1 = G.1 1) (r9 : G'.2.2 1 9 = G.2.2 1 9) (r13 : G'.2.2 1 13 = G.2.2 1 13) (r14 : G'.2.2 1 14 = G.2.2 1 14) : CW G' G' p P T A U cu := by
  obtain ⟨⟨⟨a1, a2, a3⟩, a4, a5⟩, ⟨b1, b3, b4, b5⟩, ⟨c1, c2⟩, ⟨o, o1, o2, o3, o4, o5⟩, wf, cr, -⟩ := W
  have e37 := hq 37 (fun q => (hQ 37 q).1 rfl)
  have hN : lsNow G' = lsNow G := r13
  have hS : lsSp G' = lsSp G := r14
  have hA : ∀ k, lsPa G' k = lsPa G k := fun k => by unfold lsPa; rw [e37.2.2]
  have hst : ∀ {s o : Nat}, adSt s → o < 28 → ¬ Q (s + o) := fun {s o} hs ho q => by
    obtain ⟨k, hk, rfl⟩ := hs
    exact (hQ _ q).2.2 ⟨by omega, by omega⟩
  have hpl : ∀ {o : Nat}, o ≤ 20 → ¬ Q (p + o) := fun {o} ho q => (hQ _ q).2.1 ⟨by omega, by omega⟩
  have ss : ∀ {s : Nat} {A : AS}, SS G s p P A → SS G' s p P A := fun {s A} H => H.off hq (fun o ho => hst H.1.1 (by omega)) (fun o _ ho => hst H.1.1 ho) (fun o ho => hpl ho)
  have ep := hq p (hpl (o := 0) (by decide))
  exact ⟨⟨⟨by rw [hN]; exact a1, by rw [hS]; exact a2, by rw [hN, hS]; exact a3⟩, fun k hk => by rw [hA, hN, hS]; exact a4 k hk, fun j k hj hk => by rw [hA, hA]; exact a5 j k hj hk⟩, ⟨by rw [r9]; exact b1, by rw [ep.1]; exact b3, b4.off hq (fun o ho => hpl ho), b5⟩, ⟨by rw [hN]; exact ss c1, c2⟩, ⟨o, o1, by rw [e1]; exact o2, o3, by rw [e1]; exact o4, fun j hj => ⟨by rw [hA]; exact ss (o5 j hj).1, (o5 j hj).2⟩⟩, fun s hs => (wf s hs).off hq (fun o _ h2 => hst hs (by omega)), by rw [e1]; exact cr, fixR.rf⟩
def CX (G : GG) (p q l m : Nat) (B : TB) (K : List LI) (S : List Nat) (A : AS) (U : List AS) (cu : CU) : Prop := CW G G p (pOf B) (tOf B) A U cu ∧ (isTp G S ∧ isKy G) ∧ isNs G p (tIx B) ∧ (isLn G l K ∧ G.2.2 1 10 = q ∧ G.2.2 1 11 = l ∧ G.2.2 1 12 = m) ∧ (adPl q ∧ p ≠ q) ∧ adLn l ∧ adLn m ∧ l ≠ m
theorem isLn.off {Q : Nat → Prop} (h : isLn G l K) (hq : eqOff Q G G') (h0 : ∀ o, o ≤ 2 → ¬ Q (l + o)) : isLn G' l K := by
  have e0 := (hq l (h0 0 (by decide))).1
  have e1 := (hq (l + 1) (h0 1 (by decide))).1
  have e2 := (hq (l + 2) (h0 2 (by decide))).1
  exact ⟨by rw [e0]; exact h.1, fun i hi => (h.2 i hi).cg (by rw [e1]) (fun _ _ _ => by rw [e2])⟩
theorem isKy.off (h : isKy G) (e : G'.2.1 5 = G.2.1 5) : isKy G' := fun i hi => by rw [e]; exact h i hi
theorem CX.ap (C : CX G p q l m B K S A U cu) : adPl p := C.1.ss.1.2
theorem CX.of {A' : AS} {U' : List AS} {cu' : CU} (C : CX G p q l m B K S A U cu) (W : CW G G' p (pOf B) (tOf B) A' U' cu') : CX G' p q l m B K S A' U' cu' := by
  have hp3 := C.ap
  obtain ⟨-, ⟨t, k⟩, n, ⟨l1, l2, l3, l4⟩, a, b⟩ := C
  obtain ⟨w1, w2, w3, w4, w5, w6, z⟩ := W
  have nw : ∀ n, n < 31 → n ≠ 1 → ¬ wR n := fun n h1 h2 h => by unfold wR at h; omega
  have hb := b.1
  refine ⟨⟨w1, w2, w3, w4, w5, w6, fixR.rf⟩, ⟨t.off (by rw [(z.1 2 (nw 2 (by decide) (by decide))).1]) (z.1 3 (nw 3 (by decide) (by decide))).1 (z.1 4 (nw 4 (by decide) (by decide))).1, k.off (z.1 5 (nw 5 (by decide) (by decide))).2.1⟩, n.off z.1 ?_, ⟨l1.off z.1 (fun o ho h => ?_), by rw [z.2 10 (by decide) (by decide)]; exact l2, by rw [z.2 11 (by decide) (by decide)]; exact l3, by rw [z.2 12 (by decide) (by decide)]; exact l4⟩, a, b⟩
  · constructor <;> intro h <;> unfold wR at h <;> rcases hp3 with e | e | e <;> omega
  · unfold wR at h
    rcases hb with e | e | e <;> omega
/-- nothing of it lies from 618 on -/
theorem CX.high (C : CX G p q l m B K S A U cu) {Q : Nat → Prop} (hq : eqOff Q G G') (hl : ∀ n, Q n → 618 ≤ n) : CX G' p q l m B K S A U cu := by
  have hp3 := C.ap
  obtain ⟨w, ⟨t, k⟩, n, ⟨l1, l2, l3, l4⟩, a, b⟩ := C
  have e : ∀ n, n < 618 → G'.1 n = G.1 n ∧ G'.2.1 n = G.2.1 n ∧ G'.2.2 n = G.2.2 n := fun n hn => hq n (fun q => by have := hl n q; omega)
  have pl : p + 20 < 618 := by rcases hp3 with e | e | e <;> omega
  have hb : l + 2 < 618 := by rcases b.1 with e | e | e <;> omega
  have r1 := (e 1 (by decide)).2.2
  exact ⟨w.off hq (fun n hn => by have := hl n hn; omega) (e 1 (by decide)).1 (by rw [r1]) (by rw [r1]) (by rw [r1]), ⟨t.off (by rw [(e 2 (by decide)).1]) (e 3 (by decide)).1 (e 4 (by decide)).1, k.off (e 5 (by decide)).2.1⟩, n.off hq ⟨fun h => by have := hl _ h; omega, fun h => by have := hl _ h; omega⟩, ⟨l1.off hq (fun o ho h => by have := hl _ h; omega), by rw [r1]; exact l2, by rw [r1]; exact l3, by rw [r1]; exact l4⟩, a, b⟩
theorem k_feed (C : CX G p q l m B K S A U cu) (x y z : Int64) : ∃ G', f_Ls_feed [.ref 1, .long x, .long y, .long z] (hp G) = some (some (.int (nI (feedS S x y z).length)), hp G') ∧ CX G' p q l m B K (feedS S x y z) A U cu ∧ eqOff clR G G' := by
  have hp3 := C.ap
  obtain ⟨w, ⟨t, k⟩, n, ⟨l1, l2, l3, l4⟩, a, b⟩ := C
  obtain ⟨G1, a1, a2, a3⟩ := s_Tp_lay t x
  obtain ⟨G2, b1, b3, b4⟩ := s_Tp_lay a2 y
  obtain ⟨G3, c1, c2, c3⟩ := s_Tp_lay b3 z
  have E := (a3.tr b4).tr c3
  have r1 := E 1 (by decide)
  refine ⟨G3, ?_, ⟨w.off E (fun n hn => ?_) r1.1 (by rw [r1.2.2]) (by rw [r1.2.2]) (by rw [r1.2.2]), ⟨c2, k.off (E 5 (by decide)).2.1⟩, n.off E ?_, ⟨l1.off E (fun o ho h => ?_), by rw [r1.2.2]; exact l2, by rw [r1.2.2]; exact l3, by rw [r1.2.2]; exact l4⟩, a, b⟩, E.mono (fun n hn => ?_)⟩
  · rw [e_Ls_feed 1 _ _ _ _ (ob_Ls G), gg_Ls_tape, Option.bind_some, a1, cv_some, gg_Ls_tape, Option.bind_some, b1, cv_some, gg_Ls_tape, Option.bind_some, c1, cv_some, gg_Ls_tape, Option.bind_some, gg_Tp_length, Option.bind_some, c2.1.1]
    rfl
  · have : n = 2 ∨ n = 3 ∨ n = 4 := hn
    rcases hp3 with e | e | e <;> omega
  · constructor
    · intro h; have : p = 2 ∨ p = 3 ∨ p = 4 := h; rcases hp3 with e | e | e <;> omega
    · intro h; have : p + 3 = 2 ∨ p + 3 = 3 ∨ p + 3 = 4 := h; rcases hp3 with e | e | e <;> omega
  · have : l + o = 2 ∨ l + o = 3 ∨ l + o = 4 := h
    rcases b.1 with e | e | e <;> omega
  · have : n = 2 ∨ n = 3 ∨ n = 4 := hn
    exact ⟨by omega, by omega⟩
theorem r_feed (M : MX G B K S A U cu) (h4 : (tIx B).length ≤ 4) (x y z : Int64) : ∃ G', f_Md_feed [.ref 618, .long x, .long y, .long z] (hp G) = some (some (.int (nI (feedS S x y z).length)), hp G') ∧ MX G' B K (feedS S x y z) A U cu ∧ eqOff mR G G' := by
  have ht0 : isMTp (gsi G 618 0 0) S := M.2.1.1.off (f6n _ _ (by decide)) (f6o _ _ (by decide))
  obtain ⟨G1, a1, a2, a3⟩ := m_lay ht0 x
  obtain ⟨G2, b1, b3, b4⟩ := m_lay a2 y
  obtain ⟨G3, c1, c2, c3⟩ := m_lay b3 z
  have E := (a3.tr b4).tr c3
  refine ⟨G3, ?_, M.rd h4 ((rdC.th 0).tr E.rd) c2, (eqOff.gsi _ _ mR_618).tr E.l6⟩
  rw [e_Md_feed 618 _ _ _ _ (ob_Md G), ww_Md_thrown, Option.bind_some, a1, cv_some, b1, cv_some, c1, cv_some, gg_Md_taped, Option.bind_some, c2.1.1]
  rfl
theorem isTp.nil (e2 : G.1 2 3 = 0) : isTp G [] := ⟨⟨e2, Nat.zero_le _, fun c hc => absurd hc List.not_mem_nil⟩, fun i hi => absurd hi (Nat.not_lt_zero i)⟩
/-- the reader has read, the tape is empty -/
theorem CX.read {Q : Nat → Prop} (C : CX G p q l m B K S A U cu) (hq : eqOff Q G G') (hQ : ∀ n, Q n → n = 2 ∨ n = 6 ∨ (q ≤ n ∧ n ≤ q + 20) ∨ (m ≤ n ∧ n ≤ m + 2)) : CX (gsi G' 2 3 0) p q l m B K [] A U cu ∧ eqOff clR G (gsi G' 2 3 0) := by
  have hp3 := C.ap
  obtain ⟨w, ⟨t, k⟩, n, ⟨l1, l2, l3, l4⟩, ⟨a1, a2⟩, b1, b3, b4⟩ := C
  have hE : eqOff (fun n => n = 2 ∨ n = 6 ∨ (q ≤ n ∧ n ≤ q + 20) ∨ (m ≤ n ∧ n ≤ m + 2)) G (gsi G' 2 3 0) := (hq.mono hQ).tr (eqOff.gsi _ _ (Or.inl rfl))
  have far : ∀ n, (n = 2 ∨ n = 6 ∨ (q ≤ n ∧ n ≤ q + 20) ∨ (m ≤ n ∧ n ≤ m + 2)) → n ≠ 1 ∧ n ≠ 5 ∧ n ≠ 37 ∧ ¬ (p ≤ n ∧ n ≤ p + 20) ∧ ¬ (86 ≤ n) ∧ ¬ (l ≤ n ∧ n ≤ l + 2) := fun n hn => by
    rcases a1 with e | e | e <;> rcases hp3 with e' | e' | e' <;> rcases b1 with e1 | e1 | e1 <;> rcases b3 with e2 | e2 | e2 <;> omega
  have r1 := hE 1 (fun h => (far 1 h).1 rfl)
  refine ⟨⟨w.off hE (fun n hn => ?_) r1.1 (by rw [r1.2.2]) (by rw [r1.2.2]) (by rw [r1.2.2]), ⟨isTp.nil (f2 _ _ _), k.off (hE 5 (fun h => (far 5 h).2.1 rfl)).2.1⟩, n.off hE ⟨fun h => (far _ h).2.2.2.1 ⟨by omega, by omega⟩, fun h => (far _ h).2.2.2.1 ⟨by omega, by omega⟩⟩, ⟨l1.off hE (fun o ho h => (far _ h).2.2.2.2.2 ⟨by omega, by omega⟩), by rw [r1.2.2]; exact l2, by rw [r1.2.2]; exact l3, by rw [r1.2.2]; exact l4⟩, ⟨a1, a2⟩, b1, b3, b4⟩, hE.mono (fun n hn => ?_)⟩
  · obtain ⟨x1, x2, x3, x4, x5, x6⟩ := far n hn
    exact ⟨x3, x4, fun h => x5 h.1⟩
  · have := (far n hn).2.2.2.2.1
    have : 1 ≤ n := by rcases a1 with e | e | e <;> rcases b3 with e2 | e2 | e2 <;> omega
    exact ⟨this, by omega⟩
theorem isPB.pl (h : isPB G q B) : isPl G q (pOf B) ∧ isTd G q (tOf B) ∧ G.1 q 9 = nI (pBt (pOf B)) := by
  obtain ⟨⟨a1, a2, a3, a4, a5⟩, b, c, d, e, f⟩ := h
  refine ⟨⟨⟨a1, a3⟩, fun i hi => ?_, e, f⟩, ⟨⟨a4, c⟩, a5, d⟩, a2⟩
  obtain ⟨k1, k2⟩ := pOf_kd (B := B) hi
  rw [k1, k2]
  exact ⟨(b i hi).1, (b i hi).2.1⟩
theorem isPB.ns (h : isPB G q B) (hk : okTB B) : isNs G q (tIx B) := ⟨h.1.2.2.1, fun i hi => (h.2.1 i hi).2.2, hk.2.1.1, fun x hx => (hk.2.1.2 x hx).1⟩
end CXS
