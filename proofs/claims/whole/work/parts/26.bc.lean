/-! how many bits -/
def bc (x : Int32) : Nat := ((List.range 32).filter (bt x)).length
def bc8 (b : Nat) : Nat := ((List.range 8).filter (fun i => b.testBit i)).length
def c1 (b : Nat) : Nat := b - ((b / 2) &&& 85)
def c2 (b : Nat) : Nat := (c1 b &&& 51) + ((c1 b / 4) &&& 51)
theorem c1_le : ∀ b, b < 256 → ((b / 2) &&& 85) ≤ b ∧ c1 b < 256 := by decide +kernel
theorem c2_le : ∀ b, b < 256 → c2 b ≤ 68 ∧ c2 b % 16 ≤ 4 ∧ c2 b / 16 ≤ 4 := by decide +kernel
theorem c3_eq : ∀ b, b < 256 → c2 b % 16 + c2 b / 16 = bc8 b := by decide +kernel
theorem bc8_le : ∀ b, b < 256 → bc8 b ≤ 8 := by decide +kernel
theorem and_base {k a c m M : Nat} (ha : a < 2 ^ k) (hc : c < 2 ^ k) : (a + 2 ^ k * m) &&& (c + 2 ^ k * M) = (a &&& c) + 2 ^ k * (m &&& M) := by
  have h0 : 0 < 2 ^ k := Nat.two_pow_pos k
  have hac : a &&& c < 2 ^ k := Nat.lt_of_le_of_lt Nat.and_le_left ha
  have e1 : ((a + 2 ^ k * m) &&& (c + 2 ^ k * M)) % 2 ^ k = a &&& c := by
    rw [Nat.and_mod_two_pow, Nat.add_mul_mod_self_left, Nat.add_mul_mod_self_left, Nat.mod_eq_of_lt ha, Nat.mod_eq_of_lt hc]
  have e2 : ((a + 2 ^ k * m) &&& (c + 2 ^ k * M)) / 2 ^ k = m &&& M := by
    rw [Nat.and_div_two_pow, Nat.add_mul_div_left _ _ h0, Nat.add_mul_div_left _ _ h0, Nat.div_eq_of_lt ha, Nat.div_eq_of_lt hc, Nat.zero_add, Nat.zero_add]
  have := Nat.div_add_mod ((a + 2 ^ k * m) &&& (c + 2 ^ k * M)) (2 ^ k)
  rw [e1, e2] at this
  omega
theorem and8 {a c : Nat} (m M : Nat) (ha : a < 256) (hc : c < 256) : (a + 256 * m) &&& (c + 256 * M) = (a &&& c) + 256 * (m &&& M) := and_base (k := 8) ha hc
theorem and4 {a0 a1 a2 a3 : Nat} (c : Nat) (h0 : a0 < 256) (h1 : a1 < 256) (h2 : a2 < 256) (h3 : a3 < 256) (hc : c < 256) : (a0 + 256 * (a1 + 256 * (a2 + 256 * a3))) &&& (c + 256 * (c + 256 * (c + 256 * c))) = (a0 &&& c) + 256 * ((a1 &&& c) + 256 * ((a2 &&& c) + 256 * (a3 &&& c))) := by
  rw [and8 _ _ h0 hc, and8 _ _ h1 hc, and8 _ _ h2 hc]
theorem and_hi {k a c m : Nat} (h : c < 2 ^ k) : (a + 2 ^ k * m) &&& c = (a % 2 ^ k) &&& c := by
  have h0 : 0 < 2 ^ k := Nat.two_pow_pos k
  have hd := Nat.div_add_mod a (2 ^ k)
  have e : a + 2 ^ k * m = a % 2 ^ k + 2 ^ k * (a / 2 ^ k + m) := by
    rw [Nat.mul_add]; omega
  rw [e]
  have := and_base (k := k) (a := a % 2 ^ k) (c := c) (m := a / 2 ^ k + m) (M := 0) (Nat.mod_lt _ h0) h
  simpa using this
theorem nI_ushr {n k : Nat} (hn : n < 4294967296) (hk : k < 32) : mm_ushr (nI n) (nI k) = nI (n / 2 ^ k) := by
  unfold mm_ushr
  apply Int32.toBitVec_inj.mp
  apply BitVec.eq_of_getLsbD_eq
  intro i hi
  have h := b_ushr k hk (nI n) i
  unfold bt at h
  rw [h]
  show (BitVec.ofNat 32 n).getLsbD (k + i) = (BitVec.ofNat 32 (n / 2 ^ k)).getLsbD i
  rw [BitVec.getLsbD_ofNat, BitVec.getLsbD_ofNat, ← Nat.shiftRight_eq_div_pow, Nat.testBit_shiftRight]
  by_cases h2 : k + i < 32
  · simp [h2, hi]
  · have : n.testBit (k + i) = false := Nat.testBit_lt_two_pow (Nat.lt_of_lt_of_le hn (by
      have : 2 ^ 32 ≤ 2 ^ (k + i) := Nat.pow_le_pow_right (by decide) (by omega)
      omega))
    simp [h2, this]
theorem nI_and (a b : Nat) : nI a &&& nI b = nI (a &&& b) := by
  unfold nI
  apply Int32.toBitVec_inj.mp
  show BitVec.ofNat 32 a &&& BitVec.ofNat 32 b = BitVec.ofNat 32 (a &&& b)
  rw [BitVec.ofNat_and]
theorem bt_nI (n : Nat) {i : Nat} (hi : i < 32) : bt (nI n) i = n.testBit i := by
  unfold bt
  show (BitVec.ofNat 32 n).getLsbD i = _
  rw [BitVec.getLsbD_ofNat]
  simp [hi]
theorem nI_of32 (x : Int32) : ∃ n, n < 4294967296 ∧ x = nI n := ⟨x.toBitVec.toNat, x.toBitVec.isLt, Int32.toBitVec_inj.mp (by show _ = BitVec.ofNat 32 _; simp)⟩
theorem tb4 {b0 b1 b2 b3 : Nat} (h0 : b0 < 256) (h1 : b1 < 256) (h2 : b2 < 256) (j : Nat) (hj : j < 8) :
    (b0 + 256 * (b1 + 256 * (b2 + 256 * b3))).testBit j = b0.testBit j ∧ (b0 + 256 * (b1 + 256 * (b2 + 256 * b3))).testBit (j + 8) = b1.testBit j ∧ (b0 + 256 * (b1 + 256 * (b2 + 256 * b3))).testBit (j + 16) = b2.testBit j ∧ (b0 + 256 * (b1 + 256 * (b2 + 256 * b3))).testBit (j + 24) = b3.testBit j := by
  have lo : ∀ (a m : Nat), a < 256 → (a + 256 * m).testBit j = a.testBit j := by
    intro a m ha
    have := Nat.testBit_two_pow_mul_add (a := m) (b := a) (i := 8) ha j
    rw [Nat.add_comm, this, if_pos hj]
  have hi : ∀ (a m i : Nat), a < 256 → (a + 256 * m).testBit (i + 8) = m.testBit i := by
    intro a m i ha
    have := Nat.testBit_two_pow_mul_add (a := m) (b := a) (i := 8) ha (i + 8)
    rw [Nat.add_comm, this, if_neg (by omega), show i + 8 - 8 = i by omega]
  refine ⟨lo _ _ h0, ?_, ?_, ?_⟩
  · rw [hi _ _ _ h0, lo _ _ h1]
  · rw [show j + 16 = (j + 8) + 8 by omega, hi _ _ _ h0, hi _ _ _ h1, lo _ _ h2]
  · rw [show j + 24 = (j + 16) + 8 by omega, hi _ _ _ h0, show j + 16 = (j + 8) + 8 by omega, hi _ _ _ h1, hi _ _ _ h2]
theorem bc_4 {b0 b1 b2 b3 : Nat} (h0 : b0 < 256) (h1 : b1 < 256) (h2 : b2 < 256) : bc (nI (b0 + 256 * (b1 + 256 * (b2 + 256 * b3)))) = bc8 b0 + bc8 b1 + bc8 b2 + bc8 b3 := by
  have hr : List.range 32 = List.range 8 ++ (List.range 8).map (· + 8) ++ (List.range 8).map (· + 16) ++ (List.range 8).map (· + 24) := by decide
  unfold bc bc8
  rw [hr]
  simp only [List.filter_append, List.length_append, List.filter_map, List.length_map]
  have e : ∀ (o : Nat) (p : Nat → Bool), (∀ j, j < 8 → bt (nI (b0 + 256 * (b1 + 256 * (b2 + 256 * b3)))) (j + o) = p j) → ((List.range 8).filter ((bt (nI (b0 + 256 * (b1 + 256 * (b2 + 256 * b3))))) ∘ fun x => x + o)).length = ((List.range 8).filter p).length := by
    intro o p h
    congr 1
    apply List.filter_congr
    intro j hj
    exact h j (List.mem_range.mp hj)
  rw [e 8 (fun i => b1.testBit i) (fun j hj => by rw [bt_nI _ (by omega)]; exact (tb4 h0 h1 h2 j hj).2.1), e 16 (fun i => b2.testBit i) (fun j hj => by rw [bt_nI _ (by omega)]; exact (tb4 h0 h1 h2 j hj).2.2.1), e 24 (fun i => b3.testBit i) (fun j hj => by rw [bt_nI _ (by omega)]; exact (tb4 h0 h1 h2 j hj).2.2.2)]
  congr 3
  congr 1
  apply List.filter_congr
  intro j hj
  have hj := List.mem_range.mp hj
  rw [bt_nI _ (by omega)]
  exact (tb4 h0 h1 h2 j hj).1
/-- shifted within bytes, masked -/
theorem shr_and4 {a0 a1 a2 a3 : Nat} (s c : Nat) (hs : s = 1 ∨ s = 2) (h0 : a0 < 256) (h1 : a1 < 256) (h2 : a2 < 256) (h3 : a3 < 256) (hc : c < 2 ^ (8 - s)) : ((a0 + 256 * (a1 + 256 * (a2 + 256 * a3))) / 2 ^ s) &&& (c + 256 * (c + 256 * (c + 256 * c))) = ((a0 / 2 ^ s) &&& c) + 256 * (((a1 / 2 ^ s) &&& c) + 256 * (((a2 / 2 ^ s) &&& c) + 256 * ((a3 / 2 ^ s) &&& c))) := by
  have key : ∀ (a m C : Nat), a < 256 → ((a + 256 * m) / 2 ^ s) &&& (c + 256 * C) = ((a / 2 ^ s) &&& c) + 256 * ((m / 2 ^ s) &&& C) := by
    intro a m C ha
    have e : (a + 256 * m) / 2 ^ s = (a / 2 ^ s + 2 ^ (8 - s) * (m % 2 ^ s)) + 256 * (m / 2 ^ s) := by
      rcases hs with rfl | rfl
      · simp only [Nat.pow_one]; omega
      · show (a + 256 * m) / 4 = (a / 4 + 64 * (m % 4)) + 256 * (m / 4); omega
    have hlt : a / 2 ^ s + 2 ^ (8 - s) * (m % 2 ^ s) < 256 := by
      rcases hs with rfl | rfl
      · simp only [Nat.pow_one]; omega
      · show a / 4 + 64 * (m % 4) < 256; omega
    have hc256 : c < 256 := by rcases hs with rfl | rfl <;> omega
    have hmod : (a / 2 ^ s) % 2 ^ (8 - s) = a / 2 ^ s := Nat.mod_eq_of_lt (by
      rcases hs with rfl | rfl
      · simp only [Nat.pow_one]; omega
      · show a / 4 < 64; omega)
    rw [e, and8 _ _ hlt hc256, and_hi hc, hmod]
  rw [key _ _ _ h0, key _ _ _ h1, key _ _ _ h2]
set_option maxHeartbeats 4000000 in
theorem s_Ji_bitCount (x : Int32) (h : mm_H) : f_Ji_bitCount [.int x] h = some (some (.int (nI (bc x))), h) := by
  obtain ⟨n, hn, rfl⟩ := nI_of32 x
  obtain ⟨b0, b1, b2, b3, hb0, hb1, hb2, hb3, rfl⟩ : ∃ b0 b1 b2 b3 : Nat, b0 < 256 ∧ b1 < 256 ∧ b2 < 256 ∧ b3 < 256 ∧ n = b0 + 256 * (b1 + 256 * (b2 + 256 * b3)) := ⟨n % 256, n / 256 % 256, n / 65536 % 256, n / 16777216, by omega, by omega, by omega, by omega, by omega⟩
  obtain ⟨p0, q0⟩ := c1_le b0 hb0
  obtain ⟨p1, q1⟩ := c1_le b1 hb1
  obtain ⟨p2, q2⟩ := c1_le b2 hb2
  obtain ⟨p3, q3⟩ := c1_le b3 hb3
  have A : nI (b0 + 256 * (b1 + 256 * (b2 + 256 * b3))) - ((mm_ushr (nI (b0 + 256 * (b1 + 256 * (b2 + 256 * b3)))) 1) &&& 1431655765) = nI (c1 b0 + 256 * (c1 b1 + 256 * (c1 b2 + 256 * c1 b3))) := by
    rw [show (1 : Int32) = nI 1 from rfl, nI_ushr hn (by decide), show (1431655765 : Int32) = nI (85 + 256 * (85 + 256 * (85 + 256 * 85))) from rfl, nI_and, shr_and4 1 85 (Or.inl rfl) hb0 hb1 hb2 hb3 (by decide)]
    simp only [Nat.pow_one]
    rw [n_sub (by omega)]
    congr 1
    unfold c1
    omega
  obtain ⟨d0, d0', d0''⟩ := c2_le b0 hb0
  obtain ⟨d1, d1', d1''⟩ := c2_le b1 hb1
  obtain ⟨d2, d2', d2''⟩ := c2_le b2 hb2
  obtain ⟨d3, d3', d3''⟩ := c2_le b3 hb3
  have B : (nI (c1 b0 + 256 * (c1 b1 + 256 * (c1 b2 + 256 * c1 b3))) &&& 858993459) + ((mm_ushr (nI (c1 b0 + 256 * (c1 b1 + 256 * (c1 b2 + 256 * c1 b3)))) 2) &&& 858993459) = nI (c2 b0 + 256 * (c2 b1 + 256 * (c2 b2 + 256 * c2 b3))) := by
    rw [show (2 : Int32) = nI 2 from rfl, nI_ushr (by omega) (by decide), show (858993459 : Int32) = nI (51 + 256 * (51 + 256 * (51 + 256 * 51))) from rfl, nI_and, nI_and, shr_and4 2 51 (Or.inr rfl) q0 q1 q2 q3 (by decide), and4 51 q0 q1 q2 q3 (by decide), nI_add]
    congr 1
    simp only [show (2 : Nat) ^ 2 = 4 from rfl]
    unfold c2
    omega
  have z0 := c3_eq b0 hb0
  have z1 := c3_eq b1 hb1
  have z2 := c3_eq b2 hb2
  have z3 := c3_eq b3 hb3
  have y0 := bc8_le b0 hb0
  have y1 := bc8_le b1 hb1
  have y2 := bc8_le b2 hb2
  have y3 := bc8_le b3 hb3
  have C : (nI (c2 b0 + 256 * (c2 b1 + 256 * (c2 b2 + 256 * c2 b3))) + (mm_ushr (nI (c2 b0 + 256 * (c2 b1 + 256 * (c2 b2 + 256 * c2 b3)))) 4)) &&& 252645135 = nI (bc8 b0 + 256 * (bc8 b1 + 256 * (bc8 b2 + 256 * bc8 b3))) := by
    rw [show (4 : Int32) = nI 4 from rfl, nI_ushr (by omega) (by decide), show (252645135 : Int32) = nI (15 + 256 * (15 + 256 * (15 + 256 * 15))) from rfl, nI_add, nI_and]
    have e : (c2 b0 + 256 * (c2 b1 + 256 * (c2 b2 + 256 * c2 b3))) + (c2 b0 + 256 * (c2 b1 + 256 * (c2 b2 + 256 * c2 b3))) / 2 ^ 4 = (c2 b0 + c2 b0 / 16 + 16 * (c2 b1 % 16)) + 256 * ((c2 b1 + c2 b1 / 16 + 16 * (c2 b2 % 16)) + 256 * ((c2 b2 + c2 b2 / 16 + 16 * (c2 b3 % 16)) + 256 * (c2 b3 + c2 b3 / 16))) := by
      show (c2 b0 + 256 * (c2 b1 + 256 * (c2 b2 + 256 * c2 b3))) + (c2 b0 + 256 * (c2 b1 + 256 * (c2 b2 + 256 * c2 b3))) / 16 = _
      omega
    rw [e, and4 15 (by omega) (by omega) (by omega) (by omega) (by decide)]
    have w : ∀ a : Nat, a &&& 15 = a % 16 := fun a => Nat.and_two_pow_sub_one_eq_mod a 4
    rw [w, w, w, w]
    congr 1
    omega
  rw [e_Ji_bitCount, A, B, C]
  rw [show (8 : Int32) = nI 8 from rfl, show (16 : Int32) = nI 16 from rfl, nI_ushr (by omega) (by decide), nI_add]
  have e8 : (bc8 b0 + 256 * (bc8 b1 + 256 * (bc8 b2 + 256 * bc8 b3))) + (bc8 b0 + 256 * (bc8 b1 + 256 * (bc8 b2 + 256 * bc8 b3))) / 2 ^ 8 = (bc8 b0 + bc8 b1) + 256 * ((bc8 b1 + bc8 b2) + 256 * ((bc8 b2 + bc8 b3) + 256 * bc8 b3)) := by
    show (bc8 b0 + 256 * (bc8 b1 + 256 * (bc8 b2 + 256 * bc8 b3))) + (bc8 b0 + 256 * (bc8 b1 + 256 * (bc8 b2 + 256 * bc8 b3))) / 256 = _
    omega
  rw [e8, nI_ushr (by omega) (by decide), nI_add, show (63 : Int32) = nI 63 from rfl, nI_and]
  have e16 : (bc8 b0 + bc8 b1) + 256 * ((bc8 b1 + bc8 b2) + 256 * ((bc8 b2 + bc8 b3) + 256 * bc8 b3)) + ((bc8 b0 + bc8 b1) + 256 * ((bc8 b1 + bc8 b2) + 256 * ((bc8 b2 + bc8 b3) + 256 * bc8 b3))) / 2 ^ 16 = (bc8 b0 + bc8 b1 + bc8 b2 + bc8 b3) + 256 * ((bc8 b1 + bc8 b2 + bc8 b3) + 256 * ((bc8 b2 + bc8 b3) + 256 * bc8 b3)) := by
    show _ + _ / 65536 = _
    omega
  rw [e16, show (63 : Nat) = 2 ^ 6 - 1 from rfl, Nat.and_two_pow_sub_one_eq_mod, bc_4 hb0 hb1 hb2]
  congr 5
  show _ % 64 = _
  omega
