/-! STATE (the class): STEP, the record -/
def jSince0 (J : JB) : JB := (jDn J, jAt J, jWy J, 0, jGo J, jRe J, jSd J, jSt J)
def recJ (J : JB) (x : Int32) (L : LL) : JB := (jDn J, jAt J, jWy J, 0, jGo J, jRe J ++ [(jAt J, jGo J, x)], jSd J, L)
def recA (A : AS) (J : JB) : AS := setJ (setX A (aX A + 1)) (some (recJ J (aX A + 1) (aL A (jAt J))))
section ADV
variable {G : GG} {s p : Nat} {P : PP} {A : AS}
theorem s_adv_rec (H : SS G s p P A) {J : JB} (hJ : aJ A = some J) (hi : jAt J < pNi P) (hlen : (jRe J).length < 120) {ρ : Type} (k : mm_H → Option ρ) : ∃ G', ((mm_gi 8 8 (hp G) s).bind fun x1 => (mm_pf 8 8 (.int (x1 + 1)) (hp G) s).bind fun h2 => (mm_gr 8 3 h2 s).bind fun r3 => (mm_pf 1 7 (.int 0) h2 r3).bind fun h4 => (mm_gr 8 3 h4 s).bind fun r5 => (mm_gi 8 8 h4 s).bind fun x6 => mm_cv (f_Jb_writeRecord [.ref r5, .int x6] h4) fun h7 => (mm_gr 8 3 h7 s).bind fun r8 => (mm_gr 1 2 h7 r8).bind fun r9 => mm_cv (f_Lv_become [.ref r9, .ref (s + 16 + 3 * jAt J)] h7) k) = k (hp G') ∧ SS G' s p P (recA A J) ∧ eqOff (stR s) G G' := by
  have hn := H.ni
  have hoj := H.1.1.jb
  have hk := H.kj
  rw [hJ] at hk
  obtain ⟨k1, k2, k3, k4, k5, k6, k7⟩ := hk
  rw [gg_St_spent _ H.os, Option.bind_some, H.sp, ww_St_spent _ H.os, Option.bind_some, gg_St_job _ H.os, Option.bind_some]
  have H1 := H.spent (aX A + 1)
  have hJ1 : aJ (setX A (aX A + 1)) = some J := hJ
  have hj1 := H1.jb
  rw [hJ1] at hj1
  have q1 : eqOff (stR s) G (gsi G s 8 (aX A + 1)) := eqOff.gsi _ _ ⟨⟨by omega, by omega⟩, by omega, by omega⟩
  generalize gsi G s 8 (aX A + 1) = G1 at *
  rw [ww_Jb_since _ hoj, Option.bind_some]
  have hj2 : isJb (gsi G1 (s + 8) 7 0) (s + 8) (some (jSince0 J)) := by
    obtain ⟨⟨a3, a4, a5, a6, a7, a8, a9, a10⟩, -⟩ := id hj1
    exact jb_set hj1 _ ⟨a3, a4, a5, a6, rfl, a8, a9, a10⟩ rfl (fun i hi => ⟨hi, rfl⟩)
  have H2 : SS (gsi G1 (s + 8) 7 0) s p P (setJ (setX A (aX A + 1)) (some (jSince0 J))) := H1.job (eqOff.gsi _ _ ⟨by omega, by omega⟩) hj2 ⟨k1, k2, k3, k4, Nat.zero_le _, k6, k7⟩ (fun J' e _ => ⟨J, hJ1, by rw [← Option.some.inj e]; exact ⟨rfl, rfl⟩⟩)
  have q2 : eqOff (stR s) G (gsi G1 (s + 8) 7 0) := q1.tr (eqOff.gsi _ _ ⟨⟨by omega, by omega⟩, by omega, by omega⟩)
  generalize gsi G1 (s + 8) 7 0 = G2 at *
  have e8 : G2.1 s 8 = aX A + 1 := H2.sp
  rw [gg_St_job _ H.os, Option.bind_some, gg_St_spent _ H.os, Option.bind_some, e8]
  obtain ⟨G3, w1, w2, w3⟩ := s_Jb_writeRecord hoj hj2 (show (jRe (jSince0 J)).length < 120 from hlen) (aX A + 1)
  rw [w1, cv_some, gg_St_job _ H.os, Option.bind_some, gg_Jb_stand _ hoj, Option.bind_some]
  have hk3 : okJo (some (jRec (jSince0 J) (aX A + 1))) := by
    refine ⟨k1, ?_, k3, k4, Nat.zero_le _, ?_, k7⟩
    · show (jRe J ++ [(jAt J, jGo J, aX A + 1)]).length ≤ 120
      rw [List.length_append]
      simp only [List.length_cons, List.length_nil]
      omega
    · intro r hr
      rcases List.mem_append.mp (show r ∈ jRe J ++ [(jAt J, jGo J, aX A + 1)] from hr) with h | h
      · exact k6 r h
      · rw [List.mem_singleton] at h
        subst h
        exact ⟨by show jAt J ≤ 3; omega, k4⟩
  have H3 : SS G3 s p P (setJ (setX A (aX A + 1)) (some (jRec (jSince0 J) (aX A + 1)))) := H2.job w3 w2 hk3 (fun J' e _ => ⟨jSince0 J, rfl, by rw [← Option.some.inj e]; exact ⟨rfl, rfl⟩⟩)
  have q3 : eqOff (stR s) G G3 := q2.tr (w3.mono (fun n h => by unfold inR at h; unfold stR; omega))
  obtain ⟨G4, c1, c2, c3⟩ := s_Lv_become (t := s + 11) (u := s + 16 + 3 * jAt J) H.1.1.sd (H.ol hi) (by omega) (H3.tr hi) (H3.kl hi)
  rw [show f_Lv_become [.ref (s + 8 + 3), .ref (s + 16 + 3 * jAt J)] (hp G3) = _ from c1, cv_some]
  refine ⟨G4, rfl, ?_, q3.tr (c3.mono (fun n h => by unfold inR at h; unfold stR; omega))⟩
  exact H3.stand (J := jRec (jSince0 J) (aX A + 1)) rfl c3 c2 (H3.kl hi)
theorem s_adv_164 (H : SS G s p P A) {J : JB} (hJ : aJ A = some J) (hi : jAt J < pNi P) (hlen : (jRe J).length < 120) (x : Int32) (b : Bool) {f : Nat} (hrep : b = true → repl P (jAt J) (aL A (jAt J)) (jSd J)) : ∃ G', mm_run p_St_advance (f + 1) 164 [.ref s, .ref (s + 16 + 3 * jAt J), .int x, .int (b2 b)] [] (hp G) = some (some (.int x), hp G') ∧ SS G' s p P (if b then comeA P (carA P (recA A J) (recJ J (aX A + 1) (aL A (jAt J)))) (jNoSd (recJ J (aX A + 1) (aL A (jAt J)))) (jAt J + 1) else recA A J) ∧ eqOff (stR s) G G' := by
  have hn := H.ni
  rw [e_St_advance_164]
  obtain ⟨G1, a1, H1, a3⟩ := s_adv_rec H hJ hi hlen (fun h10 => if b2 b = 0 then (some (some (.int x), h10) : Option (Option Value × mm_H)) else mm_cv (f_St_carryOut [.ref s] h10) fun h11 => (mm_gr 8 3 h11 s).bind fun r12 => (mm_gi 1 5 h11 r12).bind fun x13 => mm_cv (f_St_comeTo [.ref s, .int (x13 + 1)] h11) fun h14 => some (some (.int x), h14))
  rw [a1]
  cases b
  · rw [if_pos (by decide)]
    exact ⟨G1, rfl, H1, a3⟩
  · rw [if_neg (by decide)]
    have hJ1 : aJ (recA A J) = some (recJ J (aX A + 1) (aL A (jAt J))) := rfl
    obtain ⟨G2, b1, H2, b3⟩ := s_St_carryOut H1 hJ1 (fun _ => hrep rfl)
    have hJ2 : aJ (carA P (recA A J) (recJ J (aX A + 1) (aL A (jAt J)))) = some (jNoSd (recJ J (aX A + 1) (aL A (jAt J)))) := rfl
    have hj2 := H2.jb
    rw [hJ2] at hj2
    rw [b1, cv_some, gg_St_job _ H.os, Option.bind_some, gg_Jb_at _ H.1.1.jb, Option.bind_some, hj2.1.2.2.1]
    rw [show nI (jAt (jNoSd (recJ J (aX A + 1) (aL A (jAt J))))) + 1 = nI (jAt J + 1) from nI_add _ 1]
    obtain ⟨G3, c1, H3, c3⟩ := s_St_comeTo H2 hJ2 (n := jAt J + 1) (by omega)
    rw [c1, cv_some]
    exact ⟨G3, rfl, H3, (a3.tr b3).tr c3⟩
theorem s_St_advance_no (H : SS G s p P A) (h : runO (aJ A) = false) : f_St_advance [.ref s] (hp G) = some (some (.int (-1)), hp G) := by
  rw [e_St_advance s _ (ob_St G H.os), gg_St_job _ H.os, Option.bind_some, s_Jb_isRunning H.1.1.jb H.jb, ci_some, h, if_pos (by decide)]
def overA (A : AS) : AS := endA (setR A (aV A) (aM A) (aD A &&& (aC A ^^^ (-1))) 0)
end ADV
