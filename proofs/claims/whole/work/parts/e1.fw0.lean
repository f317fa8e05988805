/-! AT THE LOOP'S START class and reference stand alike -/
theorem mf : (cI (hM 624) 0 = 4 ∧ cI (hM 624) 1 = 2 ∧ cI (hM 624) 2 = 0 ∧ cI (hM 624) 3 = 0 ∧ cI (hM 624) 4 = 0) ∧ (cI (hM 618) 2 = 0 ∧ cI (hM 618) 15 = 0 ∧ cI (hM 618) 16 = 2 ∧ cI (hM 618) 17 = -1 ∧ cI (hM 618) 18 = 0 ∧ cI (hM 618) 19 = 0) ∧ (cI (hM 625) 0 = 0 ∧ cI (hM 625) 73 = 0 ∧ cI (hM 627) 0 = 0) ∧ (cI (hM 628) 0 = 0 ∧ cI (hM 628) 1 = 0 ∧ cI (hM 628) 2 = 0 ∧ cI (hM 628) 3 = 0 ∧ cI (hM 628) 4 = 0 ∧ cI (hM 628) 5 = 0 ∧ cI (hM 628) 12 = 0) ∧ (List.range 38).all (fun i => decide (cL (hM 623) (mw i) = lL (pkL 37 (resC.getD i [])))) = true := by decide +kernel
section FW0
variable {L : Nat} {xs : Nat → Int32}
theorem g0_i {t ci : Nat} {ds : List Nat} (hs : sh t = some (.inr (ci, ds))) (h1 : 1 ≤ t) (h2 : t < 618) (k : Nat) : (g0 L xs).1 t k = iv ci k := by
  have h0 : t ≠ 0 := by omega
  have e : (g0 L xs).1 t = gA.1 t := by simp [g0, h0, h2]
  rw [e]
  unfold gA
  dsimp only
  rw [hs]
theorem p0_ok : okPP (pOf tb0) := ⟨⟨by decide, by decide⟩, by decide, fun i hi => absurd hi (Nat.not_lt_zero i), ⟨by decide, fun l hl => absurd hl List.not_mem_nil⟩, ⟨by decide, fun l hl => absurd hl List.not_mem_nil⟩, fun l hl => absurd hl List.not_mem_nil, by decide, by decide⟩
theorem t0_ok : okTd (pOf tb0) (tOf tb0) := ⟨⟨by decide, fun t ht => absurd ht List.not_mem_nil⟩, ⟨by decide, fun t ht => absurd ht List.not_mem_nil⟩, fun i hi => absurd hi (Nat.not_lt_zero i)⟩
theorem okL0 : okL 4 [] := ⟨⟨by decide, by decide⟩, by decide, fun l hl => absurd hl List.not_mem_nil, fun l hl => absurd hl List.not_mem_nil, List.Pairwise.nil, List.nodup_nil⟩
theorem lv0 {t : Nat} (hs : okLv t) (h1 : 1 ≤ t) (h2 : t < 618) : isLv (g0 L xs) t 4 false [] := by
  have e := g0_i (L := L) (xs := xs) hs.1 h1 h2
  exact ⟨⟨by rw [e]; rfl, by rw [e]; rfl, by rw [e]; rfl, by rw [e]; rfl⟩, fun i hi => absurd hi (Nat.not_lt_zero i), fun i hi => absurd hi (Nat.not_lt_zero i)⟩
theorem ss0 : SS (g0 L xs) 86 38 (pOf tb0) (startA (pOf tb0) (tOf tb0)) := by
  refine ⟨⟨⟨0, by decide, rfl⟩, Or.inr (Or.inl rfl)⟩, ⟨⟨⟨rfl, rfl⟩, fun i hi => absurd hi (Nat.not_lt_zero i), ⟨rfl, fun i hi => absurd hi (Nat.not_lt_zero i)⟩, ⟨rfl, fun i hi => absurd hi (Nat.not_lt_zero i)⟩⟩, p0_ok⟩, ⟨⟨⟨rfl, rfl, rfl⟩, fun r k hr => absurd hr (Nat.not_lt_zero r)⟩, ⟨rfl, fun p hp1 => absurd hp1 (Nat.not_lt_zero p)⟩, fun i hi => ⟨false, ?_, fun h => absurd h (Nat.not_lt_zero i)⟩, ⟨rfl, rfl, rfl, rfl, rfl, rfl, rfl, rfl⟩, ⟨4, false, [], lv0 (t := 97) ⟨rfl, rfl, rfl⟩ (by decide) (by decide), okL0, fun J hJ => by cases hJ⟩, rfl, rfl, rfl⟩, (start_inv p0_ok t0_ok 0).1.2⟩
  have h : i = 0 ∨ i = 1 ∨ i = 2 ∨ i = 3 := by omega
  rcases h with rfl | rfl | rfl | rfl
  · exact lv0 (t := 102) ⟨rfl, rfl, rfl⟩ (by decide) (by decide)
  · exact lv0 (t := 105) ⟨rfl, rfl, rfl⟩ (by decide) (by decide)
  · exact lv0 (t := 108) ⟨rfl, rfl, rfl⟩ (by decide) (by decide)
  · exact lv0 (t := 111) ⟨rfl, rfl, rfl⟩ (by decide) (by decide)
theorem rf0 : refsOk (g0 L xs) := by
  have e37 : ∀ k, lsPa (g0 L xs) k = 170 + 28 * k := fun k => rfl
  refine ⟨⟨⟨⟨0, by decide, rfl⟩, fun h => absurd (show (86 : Nat) = 142 from h) (by decide)⟩, ⟨⟨1, by decide, rfl⟩, fun h => absurd (show (114 : Nat) = 142 from h) (by decide)⟩, fun h => absurd (show (86 : Nat) = 114 from h) (by decide)⟩, fun k hk => ?_, fun j k hj hk h => ?_⟩
  · rw [e37, show lsNow (g0 L xs) = 86 from rfl, show lsSp (g0 L xs) = 114 from rfl]
    exact ⟨⟨⟨3 + k, by omega, by omega⟩, by omega⟩, by omega, by omega⟩
  · rw [e37, e37] at h
    omega
theorem wf0 {s : Nat} (hs : adSt s) : wfS (g0 L xs) s := by
  obtain ⟨k, hk, rfl⟩ := hs
  refine ⟨4, false, [], lv0 ?_ (by omega) (by omega), okL0⟩
  match k, hk with
  | 0, _ => exact ⟨rfl, rfl, rfl⟩
  | 1, _ => exact ⟨rfl, rfl, rfl⟩
  | 2, _ => exact ⟨rfl, rfl, rfl⟩
  | 3, _ => exact ⟨rfl, rfl, rfl⟩
  | 4, _ => exact ⟨rfl, rfl, rfl⟩
  | 5, _ => exact ⟨rfl, rfl, rfl⟩
  | 6, _ => exact ⟨rfl, rfl, rfl⟩
  | 7, _ => exact ⟨rfl, rfl, rfl⟩
  | 8, _ => exact ⟨rfl, rfl, rfl⟩
  | 9, _ => exact ⟨rfl, rfl, rfl⟩
  | 10, _ => exact ⟨rfl, rfl, rfl⟩
  | 11, _ => exact ⟨rfl, rfl, rfl⟩
  | 12, _ => exact ⟨rfl, rfl, rfl⟩
  | 13, _ => exact ⟨rfl, rfl, rfl⟩
  | 14, _ => exact ⟨rfl, rfl, rfl⟩
  | 15, _ => exact ⟨rfl, rfl, rfl⟩
  | 16, _ => exact ⟨rfl, rfl, rfl⟩
  | 17, _ => exact ⟨rfl, rfl, rfl⟩
  | 18, _ => exact ⟨rfl, rfl, rfl⟩
  | k + 19, hk => exact absurd hk (by omega)
theorem cx0 : CX (g0 L xs) 38 59 80 83 tb0 [] [] (startA (pOf tb0) (tOf tb0)) [] (-1, 0, -1) := by
  refine ⟨⟨rf0, ⟨rfl, rfl, ⟨⟨rfl, fun r h => absurd h (Nat.not_lt_zero r)⟩, rfl, fun r h => absurd h (Nat.not_lt_zero r)⟩, t0_ok⟩, ⟨ss0, start_inv p0_ok t0_ok 0⟩, ⟨0, by decide, rfl, by decide, rfl, fun j h => absurd h (Nat.not_lt_zero j)⟩, fun s hs => wf0 hs, ⟨rfl, rfl, rfl⟩, fixR.rf⟩, ⟨?_, fun i _ => rfl⟩, ⟨rfl, fun r h => absurd h (Nat.not_lt_zero r), by decide, fun q hq => absurd hq List.not_mem_nil⟩, ⟨⟨rfl, fun r h => absurd h (Nat.not_lt_zero r)⟩, rfl, rfl, rfl⟩, ⟨Or.inr (Or.inr rfl), by decide⟩, Or.inr (Or.inl rfl), Or.inr (Or.inr rfl), by decide⟩
  exact ⟨⟨rfl, by decide, fun c hc => absurd hc List.not_mem_nil⟩, fun i hi => absurd hi (Nat.not_lt_zero i)⟩
theorem g0_m {n k : Nat} {v : Int32} (h : 618 ≤ n) (e : cI (hM n) k = v) : (g0 L xs).1 n k = v := by
  have h0 : n ≠ 0 := by omega
  have h1 : ¬ n < 618 := by omega
  have e2 : (g0 L xs).1 n = gM.1 n := by simp only [g0, if_neg h0, if_neg h1]
  rw [e2, gM_1]
  exact e
theorem g0_w {k : Nat} {v : Int64} (e : cL (hM 623) k = v) : (g0 L xs).2.1 623 k = v := by
  have h1 : ¬ 623 < 618 := by decide
  have h2 : 623 < 634 := by decide
  have e2 : (g0 L xs).2.1 623 = gM.2.1 623 := by simp only [g0, if_neg h1, if_pos h2]
  rw [e2, gM_2]
  exact e
theorem ms0 : MS (g0 L xs) 0 (pOf tb0) (startA (pOf tb0) (tOf tb0)) := by
  obtain ⟨⟨a0, a1, a2, a3, a4⟩, ⟨b2, b15, b16, b17, b18, b19⟩, ⟨c0, c73, d0⟩, ⟨e0, e1, e2, e3, e4, e5, e12⟩, w⟩ := mf
  have A0 : (g0 L xs).1 624 0 = nI 4 := g0_m (by decide) a0
  have A2 : (g0 L xs).1 624 2 = nI 0 := g0_m (by decide) a2
  have B16 : (g0 L xs).1 618 16 = nI 2 := g0_m (by decide) b16
  have C0 : (g0 L xs).1 625 0 = nI 0 := g0_m (by decide) c0
  have C73 : (g0 L xs).1 625 73 = nI 0 := g0_m (by decide) c73
  have E0 : (g0 L xs).1 628 0 = 0 := g0_m (by decide) e0
  have E1 : (g0 L xs).1 628 1 = 0 := g0_m (by decide) e1
  have E2 : (g0 L xs).1 628 2 = nI 0 := g0_m (by decide) e2
  have E3 : (g0 L xs).1 628 3 = 0 := g0_m (by decide) e3
  have E4 : (g0 L xs).1 628 4 = nI 0 := g0_m (by decide) e4
  have E5 : (g0 L xs).1 628 5 = 0 := g0_m (by decide) e5
  have E12 : (g0 L xs).1 628 12 = 0 := g0_m (by decide) e12
  generalize g0 L xs = G at *
  exact ⟨⟨by decide, ⟨A0, A2, B16⟩, fun i hi => absurd hi (Nat.not_lt_zero i), ⟨C0, fun i hi => absurd hi (Nat.not_lt_zero i)⟩, ⟨C73, fun i hi => absurd hi (Nat.not_lt_zero i)⟩⟩, ⟨E0, E1, E2, E3⟩, fun r hr => absurd hr (Nat.not_lt_zero r), ⟨E4, fun r hr => absurd hr (Nat.not_lt_zero r)⟩, fun r hr => absurd hr (Nat.not_lt_zero r), E5, E12⟩
theorem mx0 : MX (g0 L xs) tb0 [] [] (startA (pOf tb0) (tOf tb0)) [] (-1, 0, 0) := by
  have hm := ms0 (L := L) (xs := xs)
  obtain ⟨⟨a0, a1, a2, a3, a4⟩, ⟨b2, b15, b16, b17, b18, b19⟩, ⟨c0, c73, d0⟩, ⟨e0, e1, e2, e3, e4, e5, e12⟩, w⟩ := mf
  have A1 : (g0 L xs).1 624 1 = nI 2 := g0_m (by decide) a1
  have A3 : (g0 L xs).1 624 3 = nI 0 := g0_m (by decide) a3
  have A4 : (g0 L xs).1 624 4 = nI 0 := g0_m (by decide) a4
  have B2 : (g0 L xs).1 618 2 = 0 := g0_m (by decide) b2
  have B15 : (g0 L xs).1 618 15 = nI 0 := g0_m (by decide) b15
  have B17 : (g0 L xs).1 618 17 = -1 := g0_m (by decide) b17
  have B18 : (g0 L xs).1 618 18 = 0 := g0_m (by decide) b18
  have B19 : (g0 L xs).1 618 19 = 0 := g0_m (by decide) b19
  have D0 : (g0 L xs).1 627 0 = nI 0 := g0_m (by decide) d0
  have Wo : isWo (g0 L xs) := fun i hi => g0_w (of_decide_eq_true (all_range w hi))
  generalize g0 L xs = G at *
  exact ⟨⟨⟨hm, start_inv p0_ok t0_ok 0⟩, ⟨by decide, B15, fun j h => absurd h (Nat.not_lt_zero j)⟩, ⟨⟨A1, ⟨A3, fun r hr => absurd hr (Nat.not_lt_zero r)⟩, A4, fun r hr => absurd hr (Nat.not_lt_zero r)⟩, t0_ok⟩, ⟨B17, B18, B19⟩, fixM.rf⟩, ⟨isMTp.nil B2, Wo⟩, fun i hi => absurd hi (Nat.not_lt_zero i), D0, fun i hi => absurd hi (Nat.not_lt_zero i)⟩
theorem fw0 : FW (g0 L xs) := ⟨38, 59, 80, 83, tb0, [], [], _, [], _, _, cx0, mx0, ⟨okTB0.1, List.Pairwise.nil, by decide, fun t ht => absurd ht List.not_mem_nil⟩, Or.inl ⟨rfl, rfl⟩⟩
end FW0
