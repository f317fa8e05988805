/-! numbers: small naturals as ints -/
theorem n_lt {a b : Nat} (ha : a < 2147483648) (hb : b < 2147483648) : (nI a < nI b) = (a < b) := propext (nI_ltI (by omega) (by omega))
theorem n_eq {a b : Nat} (ha : a < 2147483648) (hb : b < 2147483648) : (nI a = nI b) = (a = b) := propext (nI_eq (by omega) (by omega))
theorem n_sub {a b : Nat} (h : b ≤ a) : nI a - nI b = nI (a - b) := by
  have h1 : nI (a - b) + nI b = nI a := by rw [nI_add, Nat.sub_add_cancel h]
  rw [← h1]
  simp
theorem n_mul (a b : Nat) : nI a * nI b = nI (a * b) := pk_mul a b
theorem n_0 : (0 : Int32) = nI 0 := rfl
theorem n_1 : (1 : Int32) = nI 1 := rfl
theorem n_lit (n : Nat) : (OfNat.ofNat n : Int32) = nI n := rfl
theorem n_div {a b : Nat} (ha : a < 2147483648) (hb : b < 2147483648) (h0 : 0 < b) : nI a / nI b = nI (a / b) := pk_div (by omega) h0 (by omega)
theorem n_rem {a b : Nat} (ha : a < 2147483648) (hb : b < 2147483648) (h0 : 0 < b) : mm_rem (nI a) (nI b) = nI (a % b) := pk_rem (by omega) h0 (by omega)
theorem n_inj {a b : Nat} (ha : a < 2147483648) (hb : b < 2147483648) (h : nI a = nI b) : a = b := (nI_eq (by omega) (by omega)).mp h
theorem n_m1 {a : Nat} (ha : a < 2147483648) : ¬ nI a = -1 := by
  intro h
  have h1 := congrArg Int32.toInt h
  rw [nI_toInt (by omega)] at h1
  have h2 : (-1 : Int32).toInt = -1 := by decide
  omega
theorem n_nneg {a : Nat} (ha : a < 2147483648) : ¬ nI a < 0 := nI_pos (by omega)
theorem n_neg1 : (-1 : Int32) < 0 := by decide
theorem n_lt1 {a : Nat} (ha : a < 2147483648) : (-1 : Int32) < nI a := by
  rw [Int32.lt_iff_toInt_lt, nI_toInt (by omega)]
  have h2 : (-1 : Int32).toInt = -1 := by decide
  omega
/-- an int is small and not negative, or out of the bounds -/
theorem n_cases (x : Int32) : x < 0 ∨ ∃ n, n < 2147483648 ∧ x = nI n := by
  by_cases h : x < 0
  · exact Or.inl h
  · obtain ⟨j, h1, h2⟩ := nI_of h
    exact Or.inr ⟨j, by omega, h2⟩
theorem upd_at (f : Nat → Int32) (k : Nat) (x : Int32) : upd f k x k = x := by simp [upd]
theorem upd_ne (f : Nat → Int32) {k j : Nat} (x : Int32) (h : j ≠ k) : upd f k x j = f j := by simp [upd, h]
theorem upd_if (f : Nat → Int32) (k j : Nat) (x : Int32) : upd f k x j = if j = k then x else f j := rfl
/-! a change within some cells alone -/
def eqOff (S : Nat → Prop) (G G' : GG) : Prop := ∀ n, ¬ S n → G'.1 n = G.1 n ∧ G'.2.1 n = G.2.1 n ∧ G'.2.2 n = G.2.2 n
theorem eqOff.rf {S : Nat → Prop} {G : GG} : eqOff S G G := fun _ _ => ⟨rfl, rfl, rfl⟩
theorem eqOff.tr {S : Nat → Prop} {G1 G2 G3 : GG} (h1 : eqOff S G1 G2) (h2 : eqOff S G2 G3) : eqOff S G1 G3 := fun n hn => by
  obtain ⟨a1, a2, a3⟩ := h1 n hn
  obtain ⟨b1, b2, b3⟩ := h2 n hn
  exact ⟨b1.trans a1, b2.trans a2, b3.trans a3⟩
theorem eqOff.mono {S T : Nat → Prop} {G1 G2 : GG} (h1 : eqOff S G1 G2) (h : ∀ n, S n → T n) : eqOff T G1 G2 := fun n hn => h1 n (fun q => hn (h n q))
theorem eqOff.gsa {S : Nat → Prop} {G : GG} {n : Nat} (f : Nat → Int32) (h : S n) : eqOff S G (gsa G n f) := fun n' hn => ⟨by rw [gsa_i, if_neg (fun e => hn (by rw [e]; exact h))], rfl, rfl⟩
theorem eqOff.gsi {S : Nat → Prop} {G : GG} {n : Nat} (k : Nat) (v : Int32) (h : S n) : eqOff S G (gsi G n k v) := eqOff.gsa _ h
theorem eqOff.gsl {S : Nat → Prop} {G : GG} {n : Nat} (k : Nat) (v : Int64) (h : S n) : eqOff S G (gsl G n k v) := fun n' hn => ⟨rfl, by rw [gsl_l, if_neg (fun e => hn (by rw [e]; exact h))], rfl⟩
theorem eqOff.gsr {S : Nat → Prop} {G : GG} {n : Nat} (k v : Nat) (h : S n) : eqOff S G (gsr G n k v) := fun n' hn => ⟨rfl, rfl, by rw [gsr_r, if_neg (fun e => hn (by rw [e]; exact h))]⟩
/-- from a to b, b not among them -/
abbrev inR (a b : Nat) : Nat → Prop := fun n => a ≤ n ∧ n < b
theorem cv_some {ρ : Type} (h : mm_H) (k : mm_H → Option ρ) : mm_cv (some (none, h)) k = k h := rfl
theorem ci_some {ρ : Type} (x : Int32) (h : mm_H) (k : Int32 → mm_H → Option ρ) : mm_ci (some (some (.int x), h)) k = k x h := rfl
/-! lists -/
theorem getD_ap1 {l1 l2 : List Nat} {i : Nat} (h : i < l1.length) : (l1 ++ l2).getD i 0 = l1.getD i 0 := by
  simp [List.getD_eq_getElem?_getD, List.getElem?_append_left h]
theorem getD_ap2 {l1 l2 : List Nat} {i : Nat} (h : l1.length ≤ i) : (l1 ++ l2).getD i 0 = l2.getD (i - l1.length) 0 := by
  simp [List.getD_eq_getElem?_getD, List.getElem?_append_right h]
theorem getD_mem {l : List Nat} {i : Nat} (h : i < l.length) : l.getD i 0 ∈ l := by
  simp [List.getD_eq_getElem?_getD, List.getElem?_eq_getElem h]
theorem drop_cons {α : Type} {l : List α} {i : Nat} (h : i < l.length) : l.drop i = l[i] :: l.drop (i + 1) := List.drop_eq_getElem_cons h
theorem getD_get {l : List Nat} {i : Nat} (h : i < l.length) : l.getD i 0 = l[i] := by simp [List.getD_eq_getElem?_getD, List.getElem?_eq_getElem h]
theorem n_addneg {a b : Nat} (h : b ≤ a) : nI a + -nI b = nI (a - b) := by rw [← n_sub h]; exact (Int32.sub_eq_add_neg ..).symm
theorem n_and31 {a : Nat} : nI a &&& nI 31 = nI (a % 32) := by
  have h : a % 32 = a &&& 31 := (Nat.and_two_pow_sub_one_eq_mod a 5).symm
  rw [h]
  unfold nI
  apply Int32.toBitVec_inj.mp
  show BitVec.ofNat 32 a &&& BitVec.ofNat 32 31 = BitVec.ofNat 32 (a &&& 31)
  rw [BitVec.ofNat_and]
