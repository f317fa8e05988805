/-! trees: leaves, one behind another, each a list of codes -/
abbrev LL : Type := List (List Nat)
def hgF : Nat → Nat → Nat → Nat
  | 0, _, _ => 0
  | f + 1, p, n => if 1 < n then 1 + hgF f p ((n + p - 1) / p) else 0
/-- the height over n leaves -/
def hg (p n : Nat) : Nat := hgF n p n
theorem hg_less {p n : Nat} (hp : 2 ≤ p) (hn : 1 < n) : (n + p - 1) / p < n := by
  rw [Nat.div_lt_iff_lt_mul (by omega)]
  have : n * 2 ≤ n * p := Nat.mul_le_mul_left n hp
  have h2 : n * p = (n - 1) * p + p := by
    have := Nat.sub_add_cancel (show 1 ≤ n by omega)
    calc n * p = (n - 1 + 1) * p := by rw [this]
      _ = (n - 1) * p + p := by rw [Nat.add_mul, Nat.one_mul]
  have h3 : (n - 1) * 1 ≤ (n - 1) * p := Nat.mul_le_mul_left _ (by omega)
  have h4 : (n - 1) * 2 ≤ (n - 1) * p := Nat.mul_le_mul_left _ hp
  omega
theorem hgF_2 {p : Nat} (hp : 2 ≤ p) : ∀ (f g n : Nat), n ≤ f → n ≤ g → hgF f p n = hgF g p n := by
  intro f
  induction f with
  | zero =>
    intro g n hf hg
    have : n = 0 := by omega
    subst this
    cases g <;> simp [hgF]
  | succ f ih =>
    intro g n hf hg
    cases g with
    | zero =>
      have : n = 0 := by omega
      subst this
      simp [hgF]
    | succ g =>
      by_cases h1 : 1 < n
      · have hl := hg_less hp h1
        rw [hgF, hgF, if_pos h1, if_pos h1, ih g _ (by omega) (by omega)]
      · rw [hgF, hgF, if_neg h1, if_neg h1]
theorem hg_step {p n : Nat} (hp : 2 ≤ p) (hn : 1 < n) : hg p n = 1 + hg p ((n + p - 1) / p) := by
  have hl := hg_less hp hn
  unfold hg
  obtain ⟨m, rfl⟩ : ∃ m, n = m + 1 := ⟨n - 1, by omega⟩
  rw [hgF, if_pos hn, hgF_2 hp m _ _ (by omega) (Nat.le_refl _)]
theorem hg_end {p n : Nat} (hn : ¬ 1 < n) : hg p n = 0 := by
  unfold hg
  cases n with
  | zero => rfl
  | succ n => rw [hgF, if_neg hn]
theorem hg_le {p : Nat} (hp : 2 ≤ p) : ∀ (n : Nat), hg p n ≤ n := by
  intro n
  induction n using Nat.strongRecOn with
  | ind n ih =>
    by_cases h1 : 1 < n
    · have hl := hg_less hp h1
      have := ih _ hl
      rw [hg_step hp h1]
      omega
    · rw [hg_end h1]; omega
