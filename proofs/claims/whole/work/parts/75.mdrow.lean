/-! THE REFERENCE: rows, pointers, limits -/
def pkV (V : Nat → Nat → Nat) (r : Nat) : Nat := V r 0 + 1000 * V r 1 + 1000000 * V r 2
def isMV (G : GG) (b : Nat) (V : Nat → Nat → Nat) (m : Nat) : Prop := ∀ r, r < m → G.1 628 (b + 13 + r) = nI (pkV V r)
def okV3 (V : Nat → Nat → Nat) (m : Nat) : Prop := ∀ r k, r < m → k < 3 → V r k ≤ 999
def isMPt (G : GG) (b n : Nat) (S : Nat → Nat) (T : Nat → Int32) : Prop := G.1 628 (b + 4) = nI n ∧ ∀ p, p < n → G.1 628 (b + 43 + p) = nI (S p) ∧ G.1 628 (b + 55 + p) = T p
section MDR
variable {G : GG} {b m : Nat} {V : Nat → Nat → Nat} {d c : Int32}
theorem s_Md_columnOf {x y z k : Nat} (hx : x ≤ 999) (hy : y ≤ 999) (hz : z ≤ 999) (hk : k < 3) (h : mm_H) : f_Md_columnOf [.int (nI (x + 1000 * y + 1000000 * z)), .int (nI k)] h = some (some (.int (nI (if k = 0 then x else if k = 1 then y else z))), h) := by
  rw [e_Md_columnOf]
  rcases (show k = 0 ∨ k = 1 ∨ k = 2 by omega) with e | e | e
  · rw [e, if_pos (show nI 0 = (0 : Int32) from rfl), if_pos rfl, show mm_rem (nI (x + 1000 * y + 1000000 * z)) 1000 = nI ((x + 1000 * y + 1000000 * z) % 1000) from n_rem (b := 1000) (by omega) (by decide) (by decide), show (x + 1000 * y + 1000000 * z) % 1000 = x by omega]
  · rw [e, if_neg (show ¬ nI 1 = (0 : Int32) by decide), if_pos (show nI 1 = (1 : Int32) from rfl), if_neg (by decide), if_pos rfl, show nI (x + 1000 * y + 1000000 * z) / 1000 = nI ((x + 1000 * y + 1000000 * z) / 1000) from n_div (b := 1000) (by omega) (by decide) (by decide), show mm_rem (nI ((x + 1000 * y + 1000000 * z) / 1000)) 1000 = nI ((x + 1000 * y + 1000000 * z) / 1000 % 1000) from n_rem (b := 1000) (by omega) (by decide) (by decide), show (x + 1000 * y + 1000000 * z) / 1000 % 1000 = y by omega]
  · rw [e, if_neg (show ¬ nI 2 = (0 : Int32) by decide), if_neg (show ¬ nI 2 = (1 : Int32) by decide), if_neg (by decide), if_neg (by decide), show nI (x + 1000 * y + 1000000 * z) / 1000000 = nI ((x + 1000 * y + 1000000 * z) / 1000000) from n_div (b := 1000000) (by omega) (by decide) (by decide), show (x + 1000 * y + 1000000 * z) / 1000000 = z by omega]
theorem s_Md_columnOf_any (x y : Int32) (h : mm_H) : ∃ z, f_Md_columnOf [.int x, .int y] h = some (some (.int z), h) := by
  rw [e_Md_columnOf]
  split
  · exact ⟨_, rfl⟩
  · split <;> exact ⟨_, rfl⟩
theorem i_row (b r : Nat) : (nI b + 13) + nI r = nI (b + 13 + r) := by rw [show (13 : Int32) = nI 13 from rfl, i_add, i_add]
theorem s_Md_valueOf (hb : b ≤ 9252) (hV : isMV G b V m) (hk : okV3 V m) {r k : Nat} (hr : r < m) (hm : m ≤ 30) (hk3 : k < 3) : f_Md_valueOf [.ref 618, .int (nI b), .int (nI r), .int (nI k)] (hp G) = some (some (.int (nI (V r k))), hp G) := by
  rw [e_Md_valueOf 618 _ _ _ _ (ob_Md G), gg_Md_state, Option.bind_some, i_row, rr_Md_state _ (by omega), Option.bind_some, hV r hr]
  unfold pkV
  rw [s_Md_columnOf (hk r 0 hr (by decide)) (hk r 1 hr (by decide)) (hk r 2 hr (by decide)) hk3, ci_some]
  rcases (show k = 0 ∨ k = 1 ∨ k = 2 by omega) with e | e | e <;> rw [e] <;> rfl
theorem s_Md_valueOf_any (hb : b ≤ 9252) {r : Nat} (hr : r < 30) (y : Int32) : ∃ z, f_Md_valueOf [.ref 618, .int (nI b), .int (nI r), .int y] (hp G) = some (some (.int z), hp G) := by
  rw [e_Md_valueOf 618 _ _ _ _ (ob_Md G), gg_Md_state, Option.bind_some, i_row, rr_Md_state _ (by omega), Option.bind_some]
  obtain ⟨z, hz⟩ := s_Md_columnOf_any (G.1 628 (b + 13 + r)) y (hp G)
  rw [hz, ci_some]
  exact ⟨z, rfl⟩
theorem s_Md_visible (hb : b ≤ 9252) (h0 : G.1 628 b = d) (h1 : G.1 628 (b + 1) = c) : f_Md_visible [.ref 618, .int (nI b)] (hp G) = some (some (.int (visB d c)), hp G) := by
  rw [e_Md_visible 618 _ _ (ob_Md G), gg_Md_state, Option.bind_some, show nI b + 0 = nI (b + 0) from nI_add b 0, rr_Md_state _ (by omega), Option.bind_some, Option.bind_some, show nI b + 1 = nI (b + 1) from nI_add b 1, rr_Md_state _ (by omega), Option.bind_some, h1, show G.1 628 (b + 0) = d from h0]
  rfl
theorem or_zero (x : Int32) : x ||| 0 = x := b_ext (fun i _ => by rw [b_or, b_0, Bool.or_false])
theorem s_Md_having (hb : b ≤ 9252) (hV : isMV G b V m) (hk : okV3 V m) (hm : m ≤ 30) {s : Int32} (hs : ∀ r, bt s r = true → r < m) {k v : Nat} (hk3 : k < 3) (hv : v < 2147483648) : f_Md_having [.ref 618, .int (nI b), .int s, .int (nI k), .int (nI v)] (hp G) = some (some (.int (havS V s k v)), hp G) := by
  rw [e_Md_having 618 _ _ _ _ _ (ob_Md G)]
  refine msk_loop (n := 30) (p := fun r => bt s r && V r k == v) (R := fun f r x => mm_run p_Md_having f 6 [.ref 618, .int (nI b), .int s, .int (nI k), .int (nI v), .int x, .int (nI r)] [] (hp G)) (fun f r hr => ?_) (fun f => ?_) (fu_lt (by omega))
  · show mm_run _ _ _ _ _ _ = mm_run _ _ _ _ _ _
    rw [e_Md_having_6, if_pos (show nI r < (30 : Int32) from lp (n := 30) hr (by decide)), s_Md_has s (by omega), ci_some, show nI r + 1 = nI (r + 1) from nI_add r 1, show (1 : Int32) <<< (nI r &&& 31) = sbit r from rfl]
    cases hb1 : bt s r
    · rw [if_pos (by decide), msk_n (by rw [hb1]; rfl), or_zero]
    · have hrm := hs r hb1
      have hv9 := hk r k hrm hk3
      rw [if_neg (by decide), s_Md_valueOf hb hV hk hrm hm hk3, ci_some]
      by_cases e : V r k = v
      · rw [if_pos (lq e), msk_y (by rw [hb1, e]; simp)]
      · rw [if_neg (ln e (by omega) hv), msk_n (by rw [hb1]; simp [e]), or_zero]
  · show mm_run _ _ _ _ _ _ = _
    rw [e_Md_having_6, if_neg (show ¬ nI 30 < (30 : Int32) by decide)]
    rfl
theorem s_Md_isPointed (hb : b ≤ 9252) {n : Nat} {S : Nat → Nat} {T : Nat → Int32} (hP : isMPt G b n S T) (hn : n ≤ 12) (x : Int32) : f_Md_isPointed [.ref 618, .int (nI b), .int x] (hp G) = some (some (.int (b2 (anyAt n T x))), hp G) := by
  rw [e_Md_isPointed 618 _ _ _ (ob_Md G)]
  have := fold_loop (n := n) (g := fun a p => a || decide (T p = x)) (R := fun f p a => mm_run p_Md_isPointed f 5 [.ref 618, .int (nI b), .int x, .int (b2 a), .int (nI p)] [] (hp G)) (fin := fun a => some (some (.int (b2 a)), hp G)) (fun _ _ => True) (fun f p a hpn _ => by
    refine ⟨?_, trivial⟩
    show mm_run _ _ _ _ _ _ = mm_run _ _ _ _ _ _
    rw [e_Md_isPointed_5, gg_Md_state, Option.bind_some, show nI b + 4 = nI (b + 4) from nI_add b 4, rr_Md_state _ (by omega), Option.bind_some, hP.1, if_pos (lp hpn (by omega)), show nI p + 1 = nI (p + 1) from nI_add p 1]
    cases a
    · rw [if_pos (by decide), Option.bind_some, show nI b + 55 = nI (b + 55) from nI_add b 55, i_add, rr_Md_state _ (by omega), Option.bind_some, (hP.2 p hpn).2, Bool.false_or]
      by_cases e : T p = x
      · rw [if_pos e, decide_eq_true e]; rfl
      · rw [if_neg e, decide_eq_false e]; rfl
    · rw [if_neg (by decide)]; rfl) (fun f a _ => by
    show mm_run _ _ _ _ _ _ = _
    rw [e_Md_isPointed_5, gg_Md_state, Option.bind_some, show nI b + 4 = nI (b + 4) from nI_add b 4, rr_Md_state _ (by omega), Option.bind_some, hP.1, if_neg (lm (Nat.le_refl _) (by omega)), if_pos (b2_01 a)]) trivial (a := false) (fu_lt (by omega))
  refine this.1.trans ?_
  have hany : ∀ (l : List Nat) (a : Bool), l.foldl (fun a p => a || decide (T p = x)) a = (a || l.any (fun p => decide (T p = x))) := by
    intro l
    induction l with
    | nil => intro a; simp
    | cons y l ih => intro a; rw [List.foldl_cons, ih, List.any_cons, Bool.or_assoc]
  rw [hany, Bool.false_or]
  rfl
end MDR
/-! groups of limits -/
def grF : Nat → List Lim → List Nat
  | _, [] => []
  | g, l :: r => (if lOp l then g + 1 else g) :: grF (if lOp l then g + 1 else g) r
def grs : List Lim → List Nat
  | [] => []
  | _ :: r => 0 :: grF 0 r
theorem grF_len : ∀ (r : List Lim) (g : Nat), (grF g r).length = r.length
  | [], _ => rfl
  | _ :: r, g => by unfold grF; rw [List.length_cons, grF_len r, List.length_cons]
theorem grs_len (W : List Lim) : (grs W).length = W.length := by
  cases W with
  | nil => rfl
  | cons l r => show (grF 0 r).length + 1 = _; rw [grF_len]; rfl
theorem grF_ge : ∀ (r : List Lim) (g : Nat) (q : Nat × Lim), q ∈ (grF g r).zip r → g ≤ q.1
  | [], _, q, h => by simp [grF] at h
  | l :: r, g, q, h => by
    unfold grF at h
    rw [List.zip_cons_cons] at h
    rcases List.mem_cons.mp h with e | e
    · rw [e]; dsimp only; split <;> omega
    · have := grF_ge r _ q e
      split at this <;> omega
theorem holdsG_iff (s : Lim → Bool) : ∀ (r : List Lim) (g : Bool) (n : Nat), holdsG s g r = true ↔ (g = true ∧ ∀ q ∈ (grF n r).zip r, q.1 = n → s q.2 = true) ∨ ∃ q0 ∈ (grF n r).zip r, n < q0.1 ∧ ∀ q ∈ (grF n r).zip r, q.1 = q0.1 → s q.2 = true
  | [], g, n => by simp [holdsG, grF]
  | l :: r, g, n => by
    unfold holdsG grF
    cases ho : lOp l
    · rw [if_neg (by decide), if_neg (by decide), List.zip_cons_cons, holdsG_iff s r (g && s l) n]
      constructor
      · rintro (⟨h1, h2⟩ | ⟨q0, h1, h2, h3⟩)
        · simp only [Bool.and_eq_true] at h1
          refine Or.inl ⟨h1.1, fun q hq e => ?_⟩
          rcases List.mem_cons.mp hq with e2 | e2
          · rw [e2]; exact h1.2
          · exact h2 q e2 e
        · refine Or.inr ⟨q0, List.mem_cons_of_mem _ h1, h2, fun q hq e => ?_⟩
          rcases List.mem_cons.mp hq with e2 | e2
          · rw [e2] at e; dsimp only at e; omega
          · exact h3 q e2 e
      · rintro (⟨h1, h2⟩ | ⟨q0, h1, h2, h3⟩)
        · refine Or.inl ⟨?_, fun q hq e => h2 q (List.mem_cons_of_mem _ hq) e⟩
          rw [h1, h2 (n, l) List.mem_cons_self rfl]; rfl
        · rcases List.mem_cons.mp h1 with e2 | e2
          · rw [e2] at h2; dsimp only at h2; omega
          · exact Or.inr ⟨q0, e2, h2, fun q hq e => h3 q (List.mem_cons_of_mem _ hq) e⟩
    · rw [if_pos rfl, if_pos rfl, List.zip_cons_cons, Bool.or_eq_true, holdsG_iff s r (s l) (n + 1)]
      constructor
      · rintro (h | ⟨h1, h2⟩ | ⟨q0, h1, h2, h3⟩)
        · refine Or.inl ⟨h, fun q hq e => ?_⟩
          rcases List.mem_cons.mp hq with e2 | e2
          · rw [e2] at e; dsimp only at e; omega
          · have := grF_ge r (n + 1) q e2; omega
        · refine Or.inr ⟨(n + 1, l), List.mem_cons_self, Nat.lt_succ_self _, fun q hq e => ?_⟩
          rcases List.mem_cons.mp hq with e2 | e2
          · rw [e2]; exact h1
          · exact h2 q e2 e
        · refine Or.inr ⟨q0, List.mem_cons_of_mem _ h1, by omega, fun q hq e => ?_⟩
          rcases List.mem_cons.mp hq with e2 | e2
          · rw [e2] at e; dsimp only at e; omega
          · exact h3 q e2 e
      · rintro (⟨h1, h2⟩ | ⟨q0, h1, h2, h3⟩)
        · exact Or.inl h1
        · right
          rcases List.mem_cons.mp h1 with e2 | e2
          · refine Or.inl ⟨?_, fun q hq e => h3 q (List.mem_cons_of_mem _ hq) (by rw [e2]; exact e)⟩
            have := h3 (n + 1, l) List.mem_cons_self (by rw [e2])
            exact this
          · by_cases e3 : q0.1 = n + 1
            · refine Or.inl ⟨h3 (n + 1, l) List.mem_cons_self e3.symm, fun q hq e => h3 q (List.mem_cons_of_mem _ hq) (by omega)⟩
            · exact Or.inr ⟨q0, e2, by omega, fun q hq e => h3 q (List.mem_cons_of_mem _ hq) e⟩
theorem holdsW_iff (s : Lim → Bool) (W : List Lim) : holdsW s W = true ↔ W = [] ∨ ∃ q0 ∈ (grs W).zip W, ∀ q ∈ (grs W).zip W, q.1 = q0.1 → s q.2 = true := by
  cases W with
  | nil => simp [holdsW]
  | cons l r =>
    show holdsG s (s l) r = true ↔ _
    rw [holdsG_iff s r (s l) 0]
    show _ ↔ (l :: r = [] ∨ ∃ q0 ∈ (0, l) :: (grF 0 r).zip r, ∀ q ∈ (0, l) :: (grF 0 r).zip r, q.1 = q0.1 → s q.2 = true)
    constructor
    · rintro (⟨h1, h2⟩ | ⟨q0, h1, h2, h3⟩)
      · refine Or.inr ⟨(0, l), List.mem_cons_self, fun q hq e => ?_⟩
        rcases List.mem_cons.mp hq with e2 | e2
        · rw [e2]; exact h1
        · exact h2 q e2 e
      · refine Or.inr ⟨q0, List.mem_cons_of_mem _ h1, fun q hq e => ?_⟩
        rcases List.mem_cons.mp hq with e2 | e2
        · rw [e2] at e; dsimp only at e; omega
        · exact h3 q e2 e
    · rintro (h | ⟨q0, h1, h3⟩)
      · exact absurd h (by simp)
      · by_cases e : q0.1 = 0
        · exact Or.inl ⟨h3 (0, l) List.mem_cons_self e.symm, fun q hq e2 => h3 q (List.mem_cons_of_mem _ hq) (by omega)⟩
        · rcases List.mem_cons.mp h1 with e2 | e2
          · rw [e2] at e; exact absurd rfl e
          · exact Or.inr ⟨q0, e2, by omega, fun q hq e3 => h3 q (List.mem_cons_of_mem _ hq) e3⟩
