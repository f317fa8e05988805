/-! THE REFERENCE: its whole world; a TABLE told -/
def pOf (B : TB) : PP := (tPg B, (tIx B).length, fun i => ((tIx B)[i]?.getD ([], 0, 0)).2.1, fun i => ((tIx B)[i]?.getD ([], 0, 0)).2.2, tCh B, tPa B, tBt B)
def tOf (B : TB) : TT := (tRw B, tPt B)
theorem pOf_kd {B : TB} {i : Nat} (h : i < (tIx B).length) : pKd (pOf B) i = (tIx B)[i].2.1 ∧ pCo (pOf B) i = (tIx B)[i].2.2 := by
  show ((tIx B)[i]?.getD ([], 0, 0)).2.1 = _ ∧ ((tIx B)[i]?.getD ([], 0, 0)).2.2 = _
  rw [List.getElem?_eq_getElem h]
  exact ⟨rfl, rfl⟩
theorem okPP_of {B : TB} (h : okTB B) : okPP (pOf B) := by
  obtain ⟨⟨a1, a2⟩, ⟨b1, b3⟩, -, -, ⟨e1, e2, e3⟩, -⟩ := h
  refine ⟨a1, b1, fun i hi => ?_, e1, e2, e3, a2.1, a2.2⟩
  obtain ⟨k1, k2⟩ := pOf_kd (B := B) hi
  rw [k1, k2]
  exact (b3 _ (List.getElem_mem hi)).2
theorem okTd_of {B : TB} (h : okTB B) : okTd (pOf B) (tOf B) := by
  obtain ⟨-, -, c, d, -, f⟩ := h
  refine ⟨c, d, fun i hi h2 => ?_⟩
  obtain ⟨k1, k2⟩ := pOf_kd (B := B) hi
  rw [k2]
  exact f _ (List.getElem_mem hi) (by rw [← k1]; exact h2)
/-- what a TABLE being read leaves as it was -/
def rdC (G G' : GG) : Prop := (∀ n, n = 627 ∨ n = 628 → G'.1 n = G.1 n) ∧ G'.2.1 623 = G.2.1 623 ∧ (∀ k, 15 ≤ k → k ≤ 19 → G'.1 618 k = G.1 618 k) ∧ (∀ k, k < 53 → G'.1 624 k = G.1 624 k) ∧ (∀ k, k < 146 → G'.1 625 k = G.1 625 k) ∧ ∀ k, k < 4 → G'.2.1 626 k = G.2.1 626 k
theorem rdC.tr {G1 G2 G3 : GG} (h1 : rdC G1 G2) (h2 : rdC G2 G3) : rdC G1 G3 := ⟨fun n a => (h2.1 n a).trans (h1.1 n a), h2.2.1.trans h1.2.1, fun k a b => (h2.2.2.1 k a b).trans (h1.2.2.1 k a b), fun k a => (h2.2.2.2.1 k a).trans (h1.2.2.2.1 k a), fun k a => (h2.2.2.2.2.1 k a).trans (h1.2.2.2.2.1 k a), fun k a => (h2.2.2.2.2.2 k a).trans (h1.2.2.2.2.2 k a)⟩
theorem drE.rd {G G' : GG} (h : drE G G') : rdC G G' := ⟨fun n a => h.1 n (by omega) (by omega) (by omega), h.2.1 623 (by decide), fun k a b => h.2.2.2.1 k (by omega) (by omega), h.2.2.2.2.1, h.2.2.2.2.2.1, h.2.2.2.2.2.2⟩
theorem cutE.rd {G G' : GG} (h : cutE G G') : rdC G G' := ⟨fun n a => (h.1 n (by omega)).1, (h.1 623 (by omega)).2.1, fun k a b => h.2 k (by omega) (by omega) (by omega) (by omega), fun k _ => by rw [(h.1 624 (by omega)).1], fun k _ => by rw [(h.1 625 (by omega)).1], fun k _ => by rw [(h.1 626 (by omega)).2.1]⟩
theorem rdC.th {G : GG} (x : Int32) : rdC G (gsi G 618 0 x) := ⟨fun n a => f6o _ _ (by omega), rfl, fun k a b => f6n _ _ (by omega), fun k _ => by rw [f6o _ _ (by decide)], fun k _ => by rw [f6o _ _ (by decide)], fun k _ => rfl⟩
section MXS
variable {G G' Z : GG} {P : PP} {T : TT} {A : AS} {U : List AS} {cu : CU} {B : TB}
theorem isMP.rd (h : isMP G P) (hk : okPP P) (hR : rdC G G') : isMP G' P := by
  obtain ⟨⟨a, b, c⟩, d, e, f⟩ := h
  have h4 := hk.2.1
  refine ⟨⟨by rw [hR.2.2.2.1 0 (by decide)]; exact a, by rw [hR.2.2.2.1 2 (by decide)]; exact b, by rw [hR.2.2.1 16 (by decide) (by decide)]; exact c⟩, fun i hi => ?_, e.far hk.2.2.2.1.1 (fun k _ q => hR.2.2.2.2.1 k (by omega)), f.far hk.2.2.2.2.1.1 (fun k _ q => hR.2.2.2.2.1 k (by omega))⟩
  rw [hR.2.2.2.1 (9 + i) (by omega), hR.2.2.2.1 (13 + i) (by omega)]
  exact d i hi
theorem isMT.rd (h : isMT G P T) (hk : okTd P T) (hR : rdC G G') : isMT G' P T := by
  obtain ⟨a, ⟨b1, b3⟩, c, d⟩ := h
  have h1 := hk.1.1
  have h2 := hk.2.1.1
  refine ⟨by rw [hR.2.2.2.1 1 (by decide)]; exact a, ⟨by rw [hR.2.2.2.1 3 (by decide)]; exact b1, fun r hr => ?_⟩, by rw [hR.2.2.2.1 4 (by decide)]; exact c, fun p hp1 => ?_⟩
  · rw [hR.2.2.2.1 (17 + r) (by omega)]; exact b3 r hr
  · rw [hR.2.2.2.1 (37 + p) (by omega), hR.2.2.2.1 (45 + p) (by omega)]; exact d p hp1
theorem MS.rd {b : Nat} (H : MS G b P A) (hk : okPP P) (hR : rdC G G') : MS G' b P A := ⟨⟨H.hb, H.hP.rd hk hR⟩, by rw [hR.1 628 (Or.inr rfl)]; exact H.2⟩
theorem MW.rd (W : MW Z G P T A U cu) (hR : rdC G G') : MW G' G' P T A U cu := by
  obtain ⟨⟨a1, a2⟩, ⟨u1, u2, u3⟩, ⟨t1, t2⟩, ⟨c1, c2, c3⟩, z⟩ := W
  exact ⟨⟨a1.rd a2.pp hR, a2⟩, ⟨u1, by rw [hR.2.2.1 15 (by decide) (by decide)]; exact u2, fun j hj => ⟨(u3 j hj).1.rd a2.pp hR, (u3 j hj).2⟩⟩, ⟨t1.rd t2 hR, t2⟩, ⟨by rw [hR.2.2.1 17 (by decide) (by decide)]; exact c1, by rw [hR.2.2.1 18 (by decide) (by decide)]; exact c2, by rw [hR.2.2.1 19 (by decide) (by decide)]; exact c3⟩, fixM.rf⟩
/-- the whole world of the reference -/
def MX (G : GG) (B : TB) (K : List LI) (S : List Nat) (A : AS) (U : List AS) (cu : CU) : Prop := MW G G (pOf B) (tOf B) A U cu ∧ (isMTp G S ∧ isWo G) ∧ isMN G 0 (tIx B) ∧ isMLn G K
theorem isMTp.off {S : List Nat} (h : isMTp G S) (e2 : G'.1 618 2 = G.1 618 2) (e3 : G'.1 619 = G.1 619) : isMTp G' S := ⟨⟨by rw [e2]; exact h.1.1, h.1.2⟩, fun i hi => by rw [e3]; exact h.2 i hi⟩
theorem isMTp.nil (e2 : G.1 618 2 = 0) : isMTp G [] := ⟨⟨e2, Nat.zero_le _, fun c hc => absurd hc List.not_mem_nil⟩, fun i hi => absurd hi (Nat.not_lt_zero i)⟩
theorem isWo.off (h : isWo G) (e : G'.2.1 623 = G.2.1 623) : isWo G' := fun i hi => by rw [e]; exact h i hi
theorem isMLn.off {K : List LI} (h : isMLn G K) (e : G'.1 627 = G.1 627) : isMLn G' K := by
  unfold isMLn isMLi at h ⊢
  rw [e]
  exact h
theorem MX.of {K : List LI} {S : List Nat} {A' : AS} {U' : List AS} {cu' : CU} (M : MX G B K S A U cu) (W : MW G G' (pOf B) (tOf B) A' U' cu') : MX G' B K S A' U' cu' := by
  obtain ⟨_, ⟨t, w⟩, n, l⟩ := M
  have z := W.fix
  obtain ⟨w1, w2, w3, w4, -⟩ := W
  exact ⟨⟨w1, w2, w3, w4, fixM.rf⟩, ⟨t.off (z.2.2 2 (Or.inl rfl)) (z.1 619 (by decide) (by decide)), w.off (by rw [z.2.1])⟩, fun i hi => by rw [z.2.1]; exact n i hi, l.off (z.1 627 (by decide) (by decide))⟩
theorem MX.rd {K : List LI} {S S' : List Nat} (M : MX G B K S A U cu) (h4 : (tIx B).length ≤ 4) (hR : rdC G G') (ht : isMTp G' S') : MX G' B K S' A U cu := by
  obtain ⟨w, ⟨t, o⟩, n, l⟩ := M
  exact ⟨w.rd hR, ⟨ht, o.off hR.2.1⟩, fun i hi => by rw [hR.2.2.2.2.2 (0 + i) (by omega)]; exact n i hi, l.off (hR.1 627 (Or.inl rfl))⟩
/-- nothing of it lies below 618 -/
theorem MX.low {K : List LI} {S : List Nat} (M : MX G B K S A U cu) (h4 : (tIx B).length ≤ 4) {Q : Nat → Prop} (hq : eqOff Q G G') (hl : ∀ n, Q n → n < 618) : MX G' B K S A U cu := by
  have e : ∀ n, 618 ≤ n → G'.1 n = G.1 n ∧ G'.2.1 n = G.2.1 n ∧ G'.2.2 n = G.2.2 n := fun n hn => hq n (fun q => by have := hl n q; omega)
  exact M.rd h4 ⟨fun n a => (e n (by omega)).1, (e 623 (by decide)).2.1, fun k _ _ => by rw [(e 618 (by decide)).1], fun k _ => by rw [(e 624 (by decide)).1], fun k _ => by rw [(e 625 (by decide)).1], fun k _ => by rw [(e 626 (by decide)).2.1]⟩ (M.2.1.1.off (by rw [(e 618 (by decide)).1]) (e 619 (by decide)).1)
theorem isML.sh {a b : Nat} {l : Lim} (h : isML G a l) (e : ∀ k, k < 6 → G'.1 625 (b + k) = G.1 625 (a + k)) : isML G' b l := by
  unfold isML at h ⊢
  rw [e 1 (by decide), e 2 (by decide), e 3 (by decide), e 4 (by decide), e 5 (by decide)]
  exact h
theorem isMW.sh {w v : Nat} {W : List Lim} (h : isMW G w W) (h12 : W.length ≤ 12) (e : ∀ k, k < 73 → G'.1 625 (73 * v + k) = G.1 625 (73 * w + k)) : isMW G' v W := by
  refine ⟨by have := e 0 (by decide); rw [Nat.add_zero, Nat.add_zero] at this; rw [this]; exact h.1, fun i hi => ?_⟩
  obtain ⟨g1, g2⟩ := h.2 i hi
  refine ⟨?_, g2.sh (fun k hk => ?_)⟩
  · have := e (1 + 6 * i) (by omega)
    rw [← Nat.add_assoc, ← Nat.add_assoc] at this
    rw [this]; exact g1
  · have := e (1 + 6 * i + k) (by omega)
    rw [show 73 * v + (1 + 6 * i + k) = 73 * v + 1 + 6 * i + k by omega, show 73 * w + (1 + 6 * i + k) = 73 * w + 1 + 6 * i + k by omega] at this
    exact this
theorem isMB.down (h : isMB G 53 2 4 B) (hk : okTB B) (e4 : ∀ k, k < 53 → G'.1 624 k = G.1 624 (53 + k)) (e5 : ∀ k, k < 146 → G'.1 625 k = G.1 625 (146 + k)) (e6 : ∀ k, k < 4 → G'.2.1 626 k = G.2.1 626 (4 + k)) : isMB G' 0 0 0 B := by
  obtain ⟨a, b, c, d⟩ := h
  have h4 := hk.2.1.1
  refine ⟨fun k hk v hv => ?_, fun i hi => ?_, c.sh hk.2.2.2.2.1.1.1 (fun k q => ?_), d.sh hk.2.2.2.2.1.2.1.1 (fun k q => ?_)⟩
  · rw [Nat.zero_add, e4 k hk]; exact a k hk v hv
  · rw [Nat.zero_add, e6 i (by omega)]; exact b i hi
  · rw [e5 (73 * 0 + k) (by omega), show 146 + (73 * 0 + k) = 73 * 2 + k by omega]
  · rw [e5 (73 * (0 + 1) + k) (by omega), show 146 + (73 * (0 + 1) + k) = 73 * (2 + 1) + k by omega]
theorem isMB.mp0 (h : isMB G 0 0 0 B) (hk : okTB B) : isMP0 G (pOf B) := by
  obtain ⟨a, b, c, d⟩ := h
  have h4 := hk.2.1.1
  refine ⟨⟨a 0 (by decide) _ rfl, a 2 (by decide) _ rfl⟩, fun i hi => ?_, c, d⟩
  have hi' : i < (tIx B).length := hi
  obtain ⟨k1, k2⟩ := pOf_kd hi'
  rw [k1, k2]
  have q1 := a (9 + i) (by omega) _ (cel_kd hi' h4)
  have q2 := a (13 + i) (by omega) _ (cel_co hi' h4)
  rw [Nat.zero_add] at q1 q2
  exact ⟨q1, q2⟩
theorem isMB.mt (h : isMB G 0 0 0 B) (hk : okTB B) : isMT G (pOf B) (tOf B) := by
  obtain ⟨a, b, c, d⟩ := h
  have h20 := hk.2.2.1.1
  have h8 := hk.2.2.2.1.1
  refine ⟨a 1 (by decide) _ rfl, ⟨a 3 (by decide) _ rfl, fun r hr => ?_⟩, a 4 (by decide) _ rfl, fun p hp1 => ?_⟩
  · have hr' : r < (tRw B).length := hr
    have q := a (17 + r) (by omega) _ (cel_rw hr' h20)
    rw [Nat.zero_add] at q
    exact q
  · have hp' : p < (tPt B).length := hp1
    have q1 := a (37 + p) (by omega) _ (cel_so hp' h8)
    have q2 := a (45 + p) (by omega) _ (cel_va hp' h8)
    rw [Nat.zero_add] at q1 q2
    exact ⟨q1, q2⟩
end MXS
