/-! THE HEAP BY ITS CONTENTS: all cells lie at fixed small addresses (the script 0, the class's objects 1 .. 617, the reference's 618 .. 633, the law's array 634); what they hold are three tables. -/
/-- ints, longs, references, by address and place -/
abbrev GG : Type := (Nat → Nat → Int32) × (Nat → Nat → Int64) × (Nat → Nat → Nat)
/-- an array: tag, length; an object: class, what each field is (0 an int, 1 a long, 2 a reference that changes, a + 3 the reference a) -/
abbrev SH : Type := (Nat × Nat) ⊕ (Nat × List Nat)
def shLv (t : Nat) : Nat → Option SH
  | 0 => some (.inr (2, [t + 1 + 3, t + 2 + 3, 0, 0, 0, 0]))
  | 1 => some (.inl (0, 30))
  | 2 => some (.inl (0, 30))
  | _ => none
def shWh (w : Nat) : Nat → Option SH
  | 0 => some (.inr (10, [w + 1 + 3, w + 2 + 3, w + 3 + 3, w + 4 + 3, w + 5 + 3, w + 6 + 3, 0]))
  | 1 => some (.inl (0, 12))
  | 2 => some (.inl (0, 12))
  | 3 => some (.inl (0, 12))
  | 4 => some (.inl (0, 12))
  | 5 => some (.inl (3, 12))
  | 6 => some (.inl (3, 12))
  | _ => none
def shPl (p : Nat) : Nat → Option SH
  | 0 => some (.inr (4, [p + 1 + 3, p + 2 + 3, p + 3 + 3, p + 4 + 3, p + 5 + 3, p + 6 + 3, p + 7 + 3, p + 14 + 3, 0, 0, 0, 0, 0]))
  | 1 => some (.inl (0, 4))
  | 2 => some (.inl (0, 4))
  | 3 => some (.inl (1, 4))
  | 4 => some (.inl (0, 60))
  | 5 => some (.inl (0, 8))
  | 6 => some (.inl (0, 8))
  | o + 7 => if o < 7 then shWh (p + 7) o else if o < 14 then shWh (p + 14) (o - 7) else none
def shLn (l : Nat) : Nat → Option SH
  | 0 => some (.inr (3, [l + 1 + 3, l + 2 + 3, 0]))
  | 1 => some (.inl (0, 40))
  | 2 => some (.inl (0, 120))
  | _ => none
def shSt (s : Nat) : Nat → Option SH
  | 0 => some (.inr (8, [s + 1 + 3, s + 3 + 3, s + 7 + 3, s + 8 + 3, s + 14 + 3, s + 15 + 3, 2, 0, 0]))
  | 1 => some (.inr (7, [s + 2 + 3, 0, 0, 0]))
  | 2 => some (.inl (0, 90))
  | 3 => some (.inr (5, [s + 4 + 3, s + 5 + 3, s + 6 + 3, 0]))
  | 4 => some (.inl (0, 12))
  | 5 => some (.inl (0, 12))
  | 6 => some (.inl (0, 12))
  | 7 => some (.inl (5, 4))
  | 8 => some (.inr (1, [s + 9 + 3, s + 10 + 3, s + 11 + 3, 0, 0, 0, 0, 0, 0, 0, 0]))
  | 9 => some (.inl (0, 360))
  | 10 => some (.inl (0, 40))
  | 11 => shLv (s + 11) 0
  | 12 => shLv (s + 11) 1
  | 13 => shLv (s + 11) 2
  | 14 => some (.inl (0, 4))
  | 15 => some (.inl (0, 4))
  | o + 16 => if o < 12 then shLv (s + 16 + 3 * (o / 3)) (o % 3) else none
def shMd : Nat → Option SH
  | 0 => some (.inr (12, [0, 619 + 3, 0, 0, 620 + 3, 621 + 3, 622 + 3, 0, 0, 623 + 3, 624 + 3, 625 + 3, 626 + 3, 627 + 3, 628 + 3, 0, 0, 0, 0, 0, 0, 0, 629 + 3, 630 + 3, 631 + 3, 632 + 3, 633 + 3]))
  | 1 => some (.inl (0, 1000))
  | 2 => some (.inl (0, 1002))
  | 3 => some (.inl (0, 1002))
  | 4 => some (.inl (1, 1002))
  | 5 => some (.inl (1, 38))
  | 6 => some (.inl (0, 106))
  | 7 => some (.inl (0, 292))
  | 8 => some (.inl (1, 8))
  | 9 => some (.inl (0, 321))
  | 10 => some (.inl (0, 9766))
  | 11 => some (.inl (3, 4))
  | 12 => some (.inl (0, 4))
  | 13 => some (.inl (0, 30))
  | 14 => some (.inl (0, 8))
  | 15 => some (.inl (0, 30))
  | 16 => some (.inl (1, 1))
  | _ => none
/-- the script; LeafSweep; its tape, reader, bench and past -/
def shLs : Nat → Option SH
  | 0 => some (.inl (9, 0))
  | 1 => some (.inr (11, [2 + 3, 6 + 3, 31 + 3, 37 + 3, 0, 0, 0, 0, 0, 2, 2, 2, 2, 2, 2, 142 + 3]))
  | 2 => some (.inr (9, [3 + 3, 4 + 3, 5 + 3, 0, 0, 0, 0, 0, 1]))
  | 3 => some (.inl (2, 1000))
  | 4 => some (.inl (2, 1000))
  | 5 => some (.inl (1, 38))
  | 6 => some (.inr (6, [2 + 3, 2, 2, 0, 0, 0]))
  | _ => none
def shBn : Nat → Option SH
  | 0 => some (.inr (0, [32 + 3, 33 + 3, 34 + 3, 35 + 3, 36 + 3, 0]))
  | 1 => some (.inl (0, 30))
  | 2 => some (.inl (0, 8))
  | 3 => some (.inl (0, 30))
  | 4 => some (.inl (0, 30))
  | 5 => some (.inl (0, 30))
  | 6 => some (.inl (4, 16))
  | _ => none
def sh (n : Nat) : Option SH :=
  if n < 7 then shLs n else if n < 28 then shPl 7 (n - 7) else if n < 31 then shLn 28 (n - 28) else if n < 38 then shBn (n - 31) else if n < 59 then shPl 38 (n - 38) else if n < 80 then shPl 59 (n - 59) else if n < 83 then shLn 80 (n - 80) else if n < 86 then shLn 83 (n - 83)
  else if n < 618 then shSt (86 + 28 * ((n - 86) / 28)) ((n - 86) % 28) else if n < 635 then shMd (n - 618) else none
def hpV (G : GG) (n k d : Nat) : Value := match d with
  | 0 => .int (G.1 n k)
  | 1 => .long (G.2.1 n k)
  | 2 => .ref (G.2.2 n k)
  | a + 3 => .ref a
def hpD (G : GG) (n : Nat) : Nat → List Nat → List Value
  | _, [] => []
  | k, d :: ds => hpV G n k d :: hpD G n (k + 1) ds
def hpA (G : GG) (n t len : Nat) : vp_A :=
  if t = 1 then (len, .inr (.inl (G.2.1 n))) else if t = 4 then (len, .inr (.inr (.inr (.inr (fun i => some (G.2.2 n i)))))) else if t = 5 then (len, .inr (.inr (.inr (.inr (fun i => some (n + 9 + 3 * i)))))) else if t = 9 then (G.2.2 n 0, .inl (G.1 n)) else (len, .inl (G.1 n))
def hp (G : GG) : mm_H := fun n => match sh n with
  | none => none
  | some (.inl (t, len)) => some (.inl (t, hpA G n t len))
  | some (.inr (ci, ds)) => some (.inr (ci, hpD G n 0 ds))
/-- an array, or the ints of an object, anew -/
def gsa (G : GG) (n : Nat) (f : Nat → Int32) : GG := (fun n' => if n' = n then f else G.1 n', G.2)
def gsi (G : GG) (n k : Nat) (v : Int32) : GG := gsa G n (upd (G.1 n) k v)
def gsl (G : GG) (n k : Nat) (v : Int64) : GG := (G.1, fun n' => if n' = n then vp_updL (G.2.1 n) k v else G.2.1 n', G.2.2)
def gsr (G : GG) (n k v : Nat) : GG := (G.1, G.2.1, fun n' => if n' = n then va_up (G.2.2 n) k v else G.2.2 n')
theorem gsa_i (G : GG) (n : Nat) (f : Nat → Int32) (n' : Nat) : (gsa G n f).1 n' = if n' = n then f else G.1 n' := rfl
theorem gsi_i (G : GG) (n k : Nat) (v : Int32) (n' : Nat) : (gsi G n k v).1 n' = if n' = n then upd (G.1 n) k v else G.1 n' := rfl
theorem gsl_i (G : GG) (n k : Nat) (v : Int64) : (gsl G n k v).1 = G.1 := rfl
theorem gsr_i (G : GG) (n k v : Nat) : (gsr G n k v).1 = G.1 := rfl
theorem gsa_2 (G : GG) (n : Nat) (f : Nat → Int32) : (gsa G n f).2 = G.2 := rfl
theorem gsi_2 (G : GG) (n k : Nat) (v : Int32) : (gsi G n k v).2 = G.2 := rfl
theorem gsl_l (G : GG) (n k : Nat) (v : Int64) (n' : Nat) : (gsl G n k v).2.1 n' = if n' = n then vp_updL (G.2.1 n) k v else G.2.1 n' := rfl
theorem gsl_r (G : GG) (n k : Nat) (v : Int64) : (gsl G n k v).2.2 = G.2.2 := rfl
theorem gsr_l (G : GG) (n k v : Nat) : (gsr G n k v).2.1 = G.2.1 := rfl
theorem gsr_r (G : GG) (n k v : Nat) (n' : Nat) : (gsr G n k v).2.2 n' = if n' = n then va_up (G.2.2 n) k v else G.2.2 n' := rfl
theorem hpD_get (G : GG) (n : Nat) : ∀ (ds : List Nat) (k j : Nat), (hpD G n k ds)[j]? = (ds[j]?).map (hpV G n (k + j))
  | [], _, _ => rfl
  | d :: ds, k, 0 => rfl
  | d :: ds, k, j + 1 => by
    show (hpD G n (k + 1) ds)[j]? = (ds[j]?).map (hpV G n (k + (j + 1)))
    rw [hpD_get G n ds (k + 1) j, show k + 1 + j = k + (j + 1) by omega]
theorem hpD_len (G : GG) (n : Nat) : ∀ (ds : List Nat) (k : Nat), (hpD G n k ds).length = ds.length
  | [], _ => rfl
  | d :: ds, k => by show (hpD G n (k + 1) ds).length + 1 = ds.length + 1; rw [hpD_len G n ds (k + 1)]
section HP
variable {G : GG} {n ci k len : Nat} {ds : List Nat}
theorem hp_obj (hs : sh n = some (.inr (ci, ds))) : hp G n = some (.inr (ci, hpD G n 0 ds)) := by unfold hp; rw [hs]
theorem hp_arr {t : Nat} (hs : sh n = some (.inl (t, len))) : hp G n = some (.inl (t, hpA G n t len)) := by unfold hp; rw [hs]
theorem hp_gi (hs : sh n = some (.inr (ci, ds))) (hk : ds[k]? = some 0) : mm_gi ci k (hp G) n = some (G.1 n k) := by
  unfold mm_gi
  rw [hp_obj hs]
  simp [hpD_get, hk, hpV]
theorem hp_gl (hs : sh n = some (.inr (ci, ds))) (hk : ds[k]? = some 1) : mm_gl ci k (hp G) n = some (G.2.1 n k) := by
  unfold mm_gl
  rw [hp_obj hs]
  simp [hpD_get, hk, hpV]
theorem hp_gr {a : Nat} (hs : sh n = some (.inr (ci, ds))) (hk : ds[k]? = some (a + 3)) : mm_gr ci k (hp G) n = some a := by
  unfold mm_gr
  rw [hp_obj hs]
  simp [hpD_get, hk, hpV]
theorem hp_gr2 (hs : sh n = some (.inr (ci, ds))) (hk : ds[k]? = some 2) : mm_gr ci k (hp G) n = some (G.2.2 n k) := by
  unfold mm_gr
  rw [hp_obj hs]
  simp [hpD_get, hk, hpV]
theorem hpD_congr {G G' : GG} (h1 : ∀ k, k < ds.length → ds[k]? = some 0 → G.1 n k = G'.1 n k) (h2 : ∀ k, k < ds.length → ds[k]? = some 1 → G.2.1 n k = G'.2.1 n k) (h3 : ∀ k, k < ds.length → ds[k]? = some 2 → G.2.2 n k = G'.2.2 n k) : hpD G n 0 ds = hpD G' n 0 ds := by
  apply List.ext_getElem?
  intro j
  rw [hpD_get, hpD_get]
  cases hd : ds[j]? with
  | none => rfl
  | some d =>
    have hj : j < ds.length := (List.getElem?_eq_some_iff.mp hd).1
    simp only [Option.map_some, Nat.zero_add]
    match d, hd with
    | 0, hd => simp only [hpV]; rw [h1 j hj hd]
    | 1, hd => simp only [hpV]; rw [h2 j hj hd]
    | 2, hd => simp only [hpV]; rw [h3 j hj hd]
    | a + 3, _ => rfl
theorem hp_off {G G' : GG} {n' : Nat} (h : G'.1 n' = G.1 n' ∧ G'.2.1 n' = G.2.1 n' ∧ G'.2.2 n' = G.2.2 n') : hp G' n' = hp G n' := by
  obtain ⟨h1, h2, h3⟩ := h
  unfold hp
  split
  · rfl
  · rename_i t len hs
    unfold hpA
    rw [h1, h2, h3]
  · rename_i ci ds hs
    rw [hpD_congr (G := G') (G' := G) (fun k _ _ => by rw [h1]) (fun k _ _ => by rw [h2]) (fun k _ _ => by rw [h3])]
theorem hp_up {G G' : GG} {c : mm_C} (hoff : ∀ n', n' ≠ n → G'.1 n' = G.1 n' ∧ G'.2.1 n' = G.2.1 n' ∧ G'.2.2 n' = G.2.2 n') (hn : hp G' n = some c) : mm_up (hp G) n c = hp G' := by
  funext n'
  unfold mm_up
  by_cases e : n' = n
  · rw [if_pos e, e, hn]
  · rw [if_neg e, hp_off (hoff n' e)]
theorem hpD_set (v : Value) : ∀ (ds : List Nat) (k j : Nat) (G G' : GG), (∀ i, i ≠ j → ∀ d, ds[i]? = some d → hpV G n (k + i) d = hpV G' n (k + i) d) → (∀ d, ds[j]? = some d → hpV G' n (k + j) d = v) → (hpD G n k ds).set j v = hpD G' n k ds := by
  intro ds k j G G' h1 h2
  apply List.ext_getElem?
  intro i
  rw [List.getElem?_set, hpD_get, hpD_get]
  by_cases e : j = i
  · subst e
    rw [if_pos rfl, hpD_len]
    cases hd : ds[j]? with
    | none =>
      rw [if_neg (by rw [List.getElem?_eq_none_iff] at hd; omega)]
      rfl
    | some d =>
      rw [if_pos (List.getElem?_eq_some_iff.mp hd).1]
      simp [h2 d hd]
  · rw [if_neg e]
    cases hd : ds[i]? with
    | none => rfl
    | some d => simp only [Option.map_some]; rw [h1 i (fun q => e q.symm) d hd]
theorem hp_pf {v : Int32} (hs : sh n = some (.inr (ci, ds))) (hk : ds[k]? = some 0) : mm_pf ci k (.int v) (hp G) n = some (hp (gsi G n k v)) := by
  have hlen : k < ds.length := (List.getElem?_eq_some_iff.mp hk).1
  unfold mm_pf
  rw [hp_obj hs]
  dsimp only
  rw [if_pos ⟨rfl, by rw [hpD_len]; exact hlen⟩]
  congr 1
  refine hp_up (fun n' e => ⟨by rw [gsi_i, if_neg e], rfl, rfl⟩) ?_
  rw [hp_obj hs]
  congr 3
  refine (hpD_set _ ds 0 k G _ (fun i hi d hd => ?_) (fun d hd => ?_)).symm
  · match d with
    | 0 => simp [hpV, gsi_i, upd, hi]
    | 1 => simp [hpV, gsi_2]
    | 2 => simp [hpV, gsi_2]
    | a + 3 => rfl
  · rw [hk] at hd
    cases hd
    simp [hpV, gsi_i, upd]
theorem hp_pfl {v : Int64} (hs : sh n = some (.inr (ci, ds))) (hk : ds[k]? = some 1) : mm_pf ci k (.long v) (hp G) n = some (hp (gsl G n k v)) := by
  have hlen : k < ds.length := (List.getElem?_eq_some_iff.mp hk).1
  unfold mm_pf
  rw [hp_obj hs]
  dsimp only
  rw [if_pos ⟨rfl, by rw [hpD_len]; exact hlen⟩]
  congr 1
  refine hp_up (fun n' e => ⟨rfl, by rw [gsl_l, if_neg e], rfl⟩) ?_
  rw [hp_obj hs]
  congr 3
  refine (hpD_set _ ds 0 k G _ (fun i hi d hd => ?_) (fun d hd => ?_)).symm
  · match d with
    | 0 => simp [hpV, gsl_i]
    | 1 => simp [hpV, gsl_l, vp_updL, hi]
    | 2 => simp [hpV, gsl_r]
    | a + 3 => rfl
  · rw [hk] at hd
    cases hd
    simp [hpV, gsl_l, vp_updL]
theorem hp_pfr {v : Nat} (hs : sh n = some (.inr (ci, ds))) (hk : ds[k]? = some 2) : mm_pf ci k (.ref v) (hp G) n = some (hp (gsr G n k v)) := by
  have hlen : k < ds.length := (List.getElem?_eq_some_iff.mp hk).1
  unfold mm_pf
  rw [hp_obj hs]
  dsimp only
  rw [if_pos ⟨rfl, by rw [hpD_len]; exact hlen⟩]
  congr 1
  refine hp_up (fun n' e => ⟨rfl, rfl, by rw [gsr_r, if_neg e]⟩) ?_
  rw [hp_obj hs]
  congr 3
  refine (hpD_set _ ds 0 k G _ (fun i hi d hd => ?_) (fun d hd => ?_)).symm
  · match d with
    | 0 => simp [hpV, gsr_i]
    | 1 => simp [hpV, gsr_l]
    | 2 => simp [hpV, gsr_r, va_up, hi]
    | a + 3 => rfl
  · rw [hk] at hd
    cases hd
    simp [hpV, gsr_r, va_up]
/-- a place inside an array -/
theorem nI_out {i len : Nat} (h : i < len) (hl : len < 2147483648) : ¬ (nI i < 0 ∨ len ≤ (nI i).toNatClampNeg) := nI_in h (by omega)
theorem nI_tn {i : Nat} (h : i < 2147483648) : (nI i).toNatClampNeg = i := nI_clamp (by omega)
theorem hp_li {i : Nat} (hs : sh n = some (.inl (0, len))) (hi : i < len) (hl : len < 2147483648) : mm_li (hp G) n (nI i) = some (G.1 n i) := by
  unfold mm_li
  rw [hp_arr hs]
  simp only [hpA]
  rw [if_neg (by decide), if_neg (by decide), if_neg (by decide), if_neg (by decide)]
  simp only [true_or, if_true]
  rw [if_neg (nI_out hi hl), nI_tn (by omega)]
theorem hp_li9 {i : Nat} (hs : sh n = some (.inl (9, len))) (hi : i < G.2.2 n 0) (hl : G.2.2 n 0 < 2147483648) : mm_li (hp G) n (nI i) = some (G.1 n i) := by
  unfold mm_li
  rw [hp_arr hs]
  simp only [hpA]
  rw [if_neg (by decide), if_neg (by decide), if_neg (by decide), if_pos (by decide)]
  simp only [or_true, if_true]
  rw [if_neg (nI_out hi hl), nI_tn (by omega)]
theorem hp_ln (hs : sh n = some (.inl (9, len))) : mm_ln (hp G) n = some (nI (G.2.2 n 0)) := by
  unfold mm_ln
  rw [hp_arr hs]
  simp only [hpA]
  rw [if_neg (by decide), if_neg (by decide), if_neg (by decide), if_pos (by decide)]
  rfl
theorem hp_lb {t i : Nat} (ht : t = 2 ∨ t = 3) (hs : sh n = some (.inl (t, len))) (hi : i < len) (hl : len < 2147483648) : mm_lb (hp G) n (nI i) = some (G.1 n i) := by
  unfold mm_lb
  rw [hp_arr hs]
  simp only [hpA]
  rw [if_neg (by omega), if_neg (by omega), if_neg (by omega), if_neg (by omega)]
  simp only
  rw [if_pos ht, if_neg (nI_out hi hl), nI_tn (by omega)]
theorem hp_ll {i : Nat} (hs : sh n = some (.inl (1, len))) (hi : i < len) (hl : len < 2147483648) : mm_ll (hp G) n (nI i) = some (G.2.1 n i) := by
  unfold mm_ll
  rw [hp_arr hs]
  simp only [hpA, if_true]
  rw [if_neg (nI_out hi hl), nI_tn (by omega)]
theorem hp_lr4 {i : Nat} (hs : sh n = some (.inl (4, len))) (hi : i < len) (hl : len < 2147483648) : mm_lr (hp G) n (nI i) = some (G.2.2 n i) := by
  unfold mm_lr
  rw [hp_arr hs]
  simp only [hpA]
  rw [if_neg (by decide), if_pos (by decide)]
  simp only [true_or, if_true]
  rw [if_neg (nI_out hi hl), nI_tn (by omega)]
theorem hp_lr5 {i : Nat} (hs : sh n = some (.inl (5, len))) (hi : i < len) (hl : len < 2147483648) : mm_lr (hp G) n (nI i) = some (n + 9 + 3 * i) := by
  unfold mm_lr
  rw [hp_arr hs]
  simp only [hpA]
  rw [if_neg (by decide), if_neg (by decide), if_pos (by decide)]
  simp only [or_true, if_true]
  rw [if_neg (nI_out hi hl), nI_tn (by omega)]
theorem hp_si {i : Nat} {x : Int32} (hs : sh n = some (.inl (0, len))) (hi : i < len) (hl : len < 2147483648) : mm_si (hp G) n (nI i) x = some (hp (gsi G n i x)) := by
  have e : ∀ G' : GG, hp G' n = some (.inl (0, len, .inl (G'.1 n))) := fun G' => by
    rw [hp_arr hs]
    simp only [hpA]
    rw [if_neg (by decide), if_neg (by decide), if_neg (by decide), if_neg (by decide)]
  unfold mm_si
  rw [e]
  simp only [if_true]
  rw [if_neg (nI_out hi hl), nI_tn (by omega)]
  congr 1
  refine hp_up (fun n' e => ⟨by rw [gsi_i, if_neg e], rfl, rfl⟩) ?_
  rw [e, gsi_i, if_pos rfl]
theorem hp_sb {t i : Nat} {x : Int32} (ht : t = 2 ∨ t = 3) (hs : sh n = some (.inl (t, len))) (hi : i < len) (hl : len < 2147483648) : mm_sb (hp G) n (nI i) x = some (hp (gsi G n i (if t = 2 then vp_nar .byte x else vp_nar .boolean x))) := by
  have e : ∀ G' : GG, hp G' n = some (.inl (t, len, .inl (G'.1 n))) := fun G' => by
    rw [hp_arr hs]
    simp only [hpA]
    rw [if_neg (by omega), if_neg (by omega), if_neg (by omega), if_neg (by omega)]
  unfold mm_sb
  rw [e]
  simp only
  rw [if_neg (nI_out hi hl), nI_tn (by omega)]
  rcases ht with rfl | rfl
  · rw [if_pos rfl]
    congr 1
    refine hp_up (fun n' e => ⟨by rw [gsi_i, if_neg e], rfl, rfl⟩) ?_
    rw [e, gsi_i, if_pos rfl, if_pos rfl]
  · rw [if_neg (by decide), if_pos rfl]
    congr 1
    refine hp_up (fun n' e => ⟨by rw [gsi_i, if_neg e], rfl, rfl⟩) ?_
    rw [e, gsi_i, if_pos rfl, if_neg (by decide)]
theorem hp_sl {i : Nat} {x : Int64} (hs : sh n = some (.inl (1, len))) (hi : i < len) (hl : len < 2147483648) : mm_sl (hp G) n (nI i) x = some (hp (gsl G n i x)) := by
  have e : ∀ G' : GG, hp G' n = some (.inl (1, len, .inr (.inl (G'.2.1 n)))) := fun G' => by
    rw [hp_arr hs]
    simp only [hpA, if_true]
  unfold mm_sl
  rw [e]
  simp only [if_true]
  rw [if_neg (nI_out hi hl), nI_tn (by omega)]
  congr 1
  refine hp_up (fun n' e => ⟨rfl, by rw [gsl_l, if_neg e], rfl⟩) ?_
  rw [e, gsl_l, if_pos rfl]
theorem hp_sr {i v : Nat} {ds : List Nat} (hs : sh n = some (.inl (4, len))) (hi : i < len) (hl : len < 2147483648) (hv : sh v = some (.inr (8, ds))) : mm_sr (hp G) n (nI i) v = some (hp (gsr G n i v)) := by
  have e : ∀ G' : GG, hp G' n = some (.inl (4, len, .inr (.inr (.inr (.inr (fun i => some (G'.2.2 n i))))))) := fun G' => by
    rw [hp_arr hs]
    simp only [hpA]
    rw [if_neg (by decide), if_pos (by decide)]
  unfold mm_sr
  rw [e, hp_obj hv]
  simp only
  rw [if_pos ⟨Or.inl trivial, rfl⟩, if_neg (nI_out hi hl), nI_tn (by omega)]
  congr 1
  refine hp_up (fun n' e => ⟨rfl, rfl, by rw [gsr_r, if_neg e]⟩) ?_
  rw [e, gsr_r, if_pos rfl]
  congr 8
  funext j
  unfold va_up
  by_cases hj : j = i
  · simp [hj]
  · simp [hj]
theorem hp_cp {a0 a n0 n1 m : Nat} (hs0 : sh a0 = some (.inl (0, n0))) (hs1 : sh a = some (.inl (0, n1))) (h0 : m ≤ n0) (h1 : m ≤ n1) (hm : m < 2147483648) : mm_cp (hp G) a0 (nI 0) a (nI 0) (nI m) = some (hp (gsa G a (fun k => if k < m then G.1 a0 k else G.1 a k))) := by
  have e : ∀ (G' : GG) {b l : Nat}, sh b = some (.inl (0, l)) → hp G' b = some (.inl (0, l, .inl (G'.1 b))) := fun G' b l hb => by
    rw [hp_arr hb]
    simp only [hpA]
    rw [if_neg (by decide), if_neg (by decide), if_neg (by decide), if_neg (by decide)]
  have z : (nI 0).toNatClampNeg = 0 := nI_tn (by omega)
  unfold mm_cp
  rw [e G hs0, e G hs1]
  simp only
  rw [if_pos ⟨trivial, trivial, nI_pos (by omega), nI_pos (by omega), nI_pos (by omega), by rw [z, nI_tn hm]; omega, by rw [z, nI_tn hm]; omega⟩]
  congr 1
  refine hp_up (fun n' e => ⟨by rw [gsa_i, if_neg e], rfl, rfl⟩) ?_
  rw [e _ hs1, gsa_i, if_pos rfl, z, nI_tn hm]
  congr 5
  funext k
  simp [va_cpy]
end HP
