/-! LEAFSWEEP (the class): begin, crash, undo, open -/
section CWJ
variable {Z G G' : GG} {p : Nat} {P : PP} {T : TT} {A A' : AS} {U : List AS} {cu : CU}
def begS (P : PP) (A : AS) (x lo hi : Int32) : Int32 := if x = -1 then wouldA P A else if isIx P x then eligA P A x.toNatClampNeg lo hi else 0
theorem bt_lt {x : Int32} {r : Nat} (h : bt x r = true) : r < 32 := by
  by_cases e : r < 32
  · exact e
  · rw [b_big (by omega)] at h; cases h
theorem wouldA_vis (h : INV P A) {r : Nat} (hr : bt (wouldA P A) r = true) : bt (visA A) r = true := by
  have h32 := bt_lt hr
  unfold wouldA at hr
  rw [bt_msk _ _ (by have := h.kr.1; omega) _ h32] at hr
  simp only [Bool.and_eq_true] at hr
  exact hr.2.1
theorem eligA_vis (h : INV P A) {i : Nat} {lo hi : Int32} {r : Nat} (hr : bt (eligA P A i lo hi) r = true) : bt (visA A) r = true := by
  have h32 := bt_lt hr
  unfold eligA at hr
  rw [bt_msk _ _ (by have := h.kr.1; omega) _ h32] at hr
  simp only [Bool.and_eq_true] at hr
  exact hr.2.1.1
theorem begS_vis (h : INV P A) {x lo hi : Int32} {r : Nat} (hr : bt (begS P A x lo hi) r = true) : bt (visA A) r = true := by
  unfold begS at hr
  by_cases e : x = -1
  · rw [if_pos e] at hr; exact wouldA_vis h hr
  · rw [if_neg e] at hr
    by_cases e2 : isIx P x = true
    · rw [if_pos e2] at hr; exact eligA_vis h hr
    · rw [if_neg e2, b_0] at hr; cases hr
theorem comeA_C (A : AS) (J : JB) (n : Nat) : aC (comeA P A J n) = aC A := by
  unfold comeA
  cases ((List.range (pNi P)).drop n).find? (hasLeft A) <;> rfl
theorem lauA_C (A : AS) (w : Int32) : aC (lauA P A w) = w := by
  unfold lauA
  rw [comeA_C]
  rfl
theorem canLau_0 (A : AS) : canLau A 0 = false := by
  unfold canLau
  rw [decide_eq_true (show (0 : Int32) = 0 from rfl)]
  cases (aJ A).isNone <;> rfl
theorem begO_ne (A : AS) (w : Int32) : (begO A w = -1) = (canLau A w = false) := by
  unfold begO
  cases canLau A w
  · rw [if_neg (by decide)]
    exact propext ⟨fun _ => rfl, fun _ => rfl⟩
  · have h32 : bc w < 2147483648 := by have := bc_le w; omega
    rw [if_pos rfl]
    exact propext ⟨fun e => absurd e (n_m1 h32), fun e => by cases e⟩
end CWJ
