-- (the rows bt .. b_sshr8 are the kit's: laws/BITS.to-paste)
def bt (x : Int32) (i : Nat) : Bool := x.toBitVec.getLsbD i
theorem b_ext {x y : Int32} (h : ∀ i, i < 32 → bt x i = bt y i) : x = y := Int32.toBitVec_inj.mp (BitVec.eq_of_getLsbD_eq (fun i hi => h i hi))
theorem b_or (x y : Int32) (i : Nat) : bt (x ||| y) i = (bt x i || bt y i) := by unfold bt; rw [Int32.toBitVec_or, BitVec.getLsbD_or]
theorem b_and (x y : Int32) (i : Nat) : bt (x &&& y) i = (bt x i && bt y i) := by unfold bt; rw [Int32.toBitVec_and, BitVec.getLsbD_and]
theorem b_xor (x y : Int32) (i : Nat) : bt (x ^^^ y) i = (bt x i ^^ bt y i) := by unfold bt; rw [Int32.toBitVec_xor, BitVec.getLsbD_xor]
theorem b_big {x : Int32} {i : Nat} (h : 32 ≤ i) : bt x i = false := BitVec.getLsbD_of_ge _ _ h
theorem b_255 (i : Nat) : bt 255 i = decide (i < 8) := by
  rcases Nat.lt_or_ge i 32 with h | h
  · exact (by decide +kernel : ∀ i, i < 32 → bt 255 i = decide (i < 8)) i h
  · rw [b_big h, decide_eq_false (by omega)]
theorem b_65535 (i : Nat) : bt 65535 i = decide (i < 16) := by
  rcases Nat.lt_or_ge i 32 with h | h
  · exact (by decide +kernel : ∀ i, i < 32 → bt 65535 i = decide (i < 16)) i h
  · rw [b_big h, decide_eq_false (by omega)]
theorem b_m1 : ∀ i, i < 32 → bt (-1) i = true := by decide +kernel
theorem b_0 (i : Nat) : bt 0 i = false := BitVec.getLsbD_zero
theorem s_l : ∀ n, n < 32 → ((nI n &&& 31).toBitVec.smod 32).toNat = n := by decide +kernel
theorem s_u : ∀ n, n < 32 → (((nI n).toUInt32 &&& Int32.toUInt32 31).toBitVec % 32).toNat = n := by decide +kernel
theorem b_shl (n : Nat) (hn : n < 32) (x : Int32) {i : Nat} (hi : i < 32) : bt (x <<< (nI n &&& 31)) i = (decide (n ≤ i) && bt x (i - n)) := by
  unfold bt
  rw [Int32.toBitVec_shiftLeft]
  show (x.toBitVec <<< ((nI n &&& 31).toBitVec.smod 32).toNat).getLsbD i = _
  rw [s_l n hn, BitVec.getLsbD_shiftLeft]
  rcases Nat.lt_or_ge i n with h | h
  · simp [h, Nat.not_le.mpr h]
  · simp [hi, h, Nat.not_lt.mpr h]
theorem b_ushr (n : Nat) (hn : n < 32) (x : Int32) (i : Nat) : bt ((x.toUInt32 >>> ((nI n).toUInt32 &&& Int32.toUInt32 31)).toInt32) i = bt x (n + i) := by
  show (x.toUInt32 >>> ((nI n).toUInt32 &&& Int32.toUInt32 31)).toBitVec.getLsbD i = x.toUInt32.toBitVec.getLsbD (n + i)
  rw [UInt32.toBitVec_shiftRight]
  show (x.toUInt32.toBitVec >>> (((nI n).toUInt32 &&& Int32.toUInt32 31).toBitVec % 32).toNat).getLsbD i = _
  rw [s_u n hn, BitVec.getLsbD_ushiftRight]
theorem b_sshr (n : Nat) (hn : n < 32) (x : Int32) {i : Nat} (hi : i < 32) : bt (x >>> (nI n &&& 31)) i = if n + i < 32 then bt x (n + i) else bt x 31 := by
  unfold bt
  rw [Int32.toBitVec_shiftRight]
  show (x.toBitVec.sshiftRight ((nI n &&& 31).toBitVec.smod 32).toNat).getLsbD i = _
  rw [s_l n hn, BitVec.getLsbD_sshiftRight, BitVec.msb_eq_getLsbD_last]
  simp [hi]
theorem b_shl8 (x : Int32) {i : Nat} (hi : i < 32) : bt (x <<< ((8 : Int32) &&& 31)) i = (decide (8 ≤ i) && bt x (i - 8)) := b_shl 8 (by omega) x hi
theorem b_shl16 (x : Int32) {i : Nat} (hi : i < 32) : bt (x <<< ((16 : Int32) &&& 31)) i = (decide (16 ≤ i) && bt x (i - 16)) := b_shl 16 (by omega) x hi
theorem b_shl24 (x : Int32) {i : Nat} (hi : i < 32) : bt (x <<< ((24 : Int32) &&& 31)) i = (decide (24 ≤ i) && bt x (i - 24)) := b_shl 24 (by omega) x hi
theorem b_sshr8 (x : Int32) {i : Nat} (hi : i < 32) : bt (x >>> ((8 : Int32) &&& 31)) i = if 8 + i < 32 then bt x (8 + i) else bt x 31 := b_sshr 8 (by omega) x hi
/-- one bit -/
def sbit (r : Nat) : Int32 := (1 : Int32) <<< (nI r &&& 31)
theorem bt_1 (i : Nat) : bt 1 i = decide (i = 0) := by
  by_cases h : i < 32
  · have : ∀ i, i < 32 → bt 1 i = decide (i = 0) := by decide +kernel
    exact this i h
  · rw [b_big (by omega)]
    simp; omega
theorem bt_sbit {r i : Nat} (hr : r < 32) (hi : i < 32) : bt (sbit r) i = decide (i = r) := by
  unfold sbit
  rw [b_shl r hr 1 hi, bt_1]
  by_cases h : r ≤ i <;> by_cases h2 : i = r <;> simp [h, h2] <;> omega
theorem bt_not (x : Int32) {i : Nat} (hi : i < 32) : bt (x ^^^ (-1)) i = !bt x i := by rw [b_xor, b_m1 i hi]; simp
theorem bt_shr1 (d : Int32) {r : Nat} (hr : r < 32) : (d >>> (nI r &&& 31)) &&& 1 = if bt d r then 1 else 0 := by
  apply b_ext
  intro i hi
  rw [b_and, b_sshr r hr d hi, bt_1]
  by_cases h0 : i = 0
  · subst h0
    simp only [Nat.add_zero, hr, if_true, decide_true, Bool.and_true]
    by_cases hd : bt d r = true
    · rw [hd]; simp [bt_1]
    · simp only [hd, Bool.not_eq_true] at *
      simp [hd, b_0]
  · by_cases hd : bt d r = true
    · simp [h0, hd, bt_1]
    · simp [h0, hd, b_0]
/-- the set of those below n of which p is so -/
def msk (p : Nat → Bool) : Nat → Int32
  | 0 => 0
  | n + 1 => msk p n ||| (if p n then sbit n else 0)
theorem bt_msk (p : Nat → Bool) : ∀ (n : Nat), n ≤ 32 → ∀ i, i < 32 → bt (msk p n) i = (decide (i < n) && p i) := by
  intro n
  induction n with
  | zero => intro _ i _; simp [msk, b_0]
  | succ n ih =>
    intro hn i hi
    rw [msk, b_or, ih (by omega) i hi]
    by_cases hp : p n = true
    · rw [if_pos hp, bt_sbit (by omega) hi]
      by_cases h1 : i = n
      · subst h1; simp [hp]
      · by_cases h2 : i < n
        · simp [h2, h1]; omega
        · simp [h2, h1]; omega
    · rw [if_neg hp, b_0]
      by_cases h1 : i = n
      · subst h1; simp [hp]
      · by_cases h2 : i < n
        · simp [h2]; omega
        · simp [h2]; omega
theorem msk_eq {p : Nat → Bool} {n : Nat} {x : Int32} (hn : n ≤ 32) (h : ∀ i, i < 32 → bt x i = (decide (i < n) && p i)) : x = msk p n := b_ext (fun i hi => by rw [h i hi, bt_msk p n hn i hi])
theorem msk_congr {p q : Nat → Bool} {n : Nat} (h : ∀ i, i < n → p i = q i) : msk p n = msk q n := by
  induction n with
  | zero => rfl
  | succ n ih => rw [msk, msk, ih (fun i hi => h i (by omega)), h n (by omega)]
theorem int_z {x : Int32} (h : ∀ i, i < 32 → bt x i = false) : x = 0 := b_ext (fun i hi => by rw [h i hi, b_0])
theorem z_int {x : Int32} : x = 0 ↔ ∀ i, i < 32 → bt x i = false := ⟨fun h i _ => by rw [h, b_0], int_z⟩
theorem sh_row (c : Nat) : (1 : Int32) <<< ((nI c &&& 31) &&& 31) = sbit (c % 32) := by
  unfold sbit
  rw [show (31 : Int32) = nI 31 from rfl, n_and31]
theorem bt_row (d : Int32) (c : Nat) : (d >>> ((nI c &&& 31) &&& 31)) &&& 1 = if bt d (c % 32) then 1 else 0 := by
  have h := bt_shr1 d (r := c % 32) (Nat.mod_lt _ (by decide))
  rw [show (31 : Int32) = nI 31 from rfl, n_and31]
  exact h
theorem i01 (b : Bool) : ((if b then (1 : Int32) else 0) = 0) = (b = false) := by cases b <;> simp
theorem i01n (b : Bool) : (if b then (1 : Int32) else 0) = nI (if b then 1 else 0) := by cases b <;> rfl
/-! loops -/
theorem for_list {α σ ρ : Type} (l : List α) (R : Nat → Nat → σ → Option ρ) (g : σ → α → σ) (fin : σ → Option ρ) (h1 : ∀ (f i : Nat) (a : σ) (hi : i < l.length), R (f + 1) i a = R f (i + 1) (g a l[i])) (h2 : ∀ (f : Nat) (a : σ), R (f + 1) l.length a = fin a) (a : σ) {f : Nat} (hf : l.length < f) : R f 0 a = fin (l.foldl g a) := by
  have key : ∀ (m i f : Nat) (a : σ), i + m = l.length → m < f → R f i a = fin ((l.drop i).foldl g a) := by
    intro m
    induction m with
    | zero =>
      intro i f a e hf
      obtain ⟨f, rfl⟩ : ∃ g, f = g + 1 := ⟨f - 1, by omega⟩
      have : i = l.length := by omega
      subst this
      rw [h2, List.drop_of_length_le (Nat.le_refl _)]
      rfl
    | succ m ih =>
      intro i f a e hf
      obtain ⟨f, rfl⟩ : ∃ g, f = g + 1 := ⟨f - 1, by omega⟩
      have hi : i < l.length := by omega
      rw [h1 f i a hi, ih (i + 1) f _ (by omega) (by omega), drop_cons hi]
      rfl
  rw [key l.length 0 f a (Nat.zero_add _) hf]
  rfl
/-- a loop that may return early -/
theorem find_list {α σ ρ : Type} (l : List α) (R : Nat → Nat → σ → Option ρ) (g : σ → α → σ) (stop : σ → α → Option (Option ρ)) (fin : σ → Option ρ)
    (h1 : ∀ (f i : Nat) (a : σ) (hi : i < l.length), R (f + 1) i a = match stop a l[i] with
      | some r => r
      | none => R f (i + 1) (g a l[i])) (h2 : ∀ (f : Nat) (a : σ), R (f + 1) l.length a = fin a) : ∀ (m i f : Nat) (a : σ), i + m = l.length → m < f → R f i a = (l.drop i).foldr (fun x k a => match stop a x with
      | some r => r
      | none => k (g a x)) fin a := by
  intro m
  induction m with
  | zero =>
    intro i f a e hf
    obtain ⟨f, rfl⟩ : ∃ g, f = g + 1 := ⟨f - 1, by omega⟩
    have : i = l.length := by omega
    subst this
    rw [h2, List.drop_of_length_le (Nat.le_refl _)]
    rfl
  | succ m ih =>
    intro i f a e hf
    obtain ⟨f, rfl⟩ : ∃ g, f = g + 1 := ⟨f - 1, by omega⟩
    have hi : i < l.length := by omega
    rw [h1 f i a hi, drop_cons hi]
    simp only [List.foldr_cons]
    split
    · rfl
    · rw [ih (i + 1) f _ (by omega) (by omega)]
theorem fu_lt {n : Nat} (h : n ≤ 9999) : n < mm_fu := Nat.lt_of_lt_of_le (Nat.lt_succ_of_le h) (mm_fu_le (by rfl))
theorem foldl_count {α : Type} (p : α → Bool) (l : List α) (n : Nat) : l.foldl (fun a x => a + (if p x then 1 else 0)) n = n + (l.filter p).length := by
  induction l generalizing n with
  | nil => rfl
  | cons x l ih =>
    rw [List.foldl_cons, ih, List.filter_cons]
    by_cases h : p x = true
    · simp only [h, if_true, List.length_cons]; omega
    · simp [h]
theorem for_inv {α σ ρ : Type} (l : List α) (R : Nat → Nat → σ → Option ρ) (g : σ → α → σ) (I : Nat → σ → Prop) (fin : σ → Option ρ) (h1 : ∀ (f i : Nat) (a : σ) (hi : i < l.length), I i a → R (f + 1) i a = R f (i + 1) (g a l[i]) ∧ I (i + 1) (g a l[i])) (h2 : ∀ (f : Nat) (a : σ), I l.length a → R (f + 1) l.length a = fin a) {a : σ} (h0 : I 0 a) {f : Nat} (hf : l.length < f) : R f 0 a = fin (l.foldl g a) ∧ I l.length (l.foldl g a) := by
  have key : ∀ (m i f : Nat) (a : σ), i + m = l.length → m < f → I i a → R f i a = fin ((l.drop i).foldl g a) ∧ I l.length ((l.drop i).foldl g a) := by
    intro m
    induction m with
    | zero =>
      intro i f a e hf hI
      obtain ⟨f, rfl⟩ : ∃ g, f = g + 1 := ⟨f - 1, by omega⟩
      have : i = l.length := by omega
      subst this
      rw [h2 f a hI, List.drop_of_length_le (Nat.le_refl _)]
      exact ⟨rfl, hI⟩
    | succ m ih =>
      intro i f a e hf hI
      obtain ⟨f, rfl⟩ : ∃ g, f = g + 1 := ⟨f - 1, by omega⟩
      have hi : i < l.length := by omega
      obtain ⟨q1, q2⟩ := h1 f i a hi hI
      obtain ⟨q3, q4⟩ := ih (i + 1) f _ (by omega) (by omega) q2
      rw [q1, q3, drop_cons hi]
      exact ⟨rfl, q4⟩
  exact key l.length 0 f a (Nat.zero_add _) hf h0
/-- the n-th of a list, as an int; none: -1 -/
def lk (v : Int32) : Nat → List Nat → Int32
  | _, [] => -1
  | s, r :: rs => if nI s = v then nI r else lk v (s + 1) rs
theorem lk_neg {v : Int32} (hv : v < 0) : ∀ (l : List Nat) (s : Nat), s + l.length ≤ 2147483647 → lk v s l = -1
  | [], _, _ => rfl
  | r :: rs, s, h => by
    have hs : s < 2147483648 := by simp only [List.length_cons] at h; omega
    rw [lk, if_neg (fun e => n_nneg hs (by rw [e]; exact hv)), lk_neg hv rs (s + 1) (by simp only [List.length_cons] at h; omega)]
theorem lk_at : ∀ (l : List Nat) (s i : Nat), s ≤ i → s + l.length ≤ 2147483647 → i < 2147483648 → lk (nI i) s l = match l[i - s]? with
    | some r => nI r
    | none => -1
  | [], s, i, _, _, _ => by simp [lk]
  | r :: rs, s, i, h1, h2, h3 => by
    simp only [List.length_cons] at h2
    rw [lk]
    by_cases e : s = i
    · subst e
      simp
    · rw [if_neg (fun q => e (n_inj (by omega) h3 q)), lk_at rs (s + 1) i (by omega) (by omega) h3]
      obtain ⟨k, hk⟩ : ∃ k, i - s = k + 1 := ⟨i - s - 1, by omega⟩
      rw [hk, List.getElem?_cons_succ, show i - (s + 1) = k by omega]
