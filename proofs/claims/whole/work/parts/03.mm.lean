/-! THE SMALL MACHINE: bytecode read as a function over a heap of cells with small addresses; its soundness over the machine stands in the next part.
A cell is an array (tag: 0 int, 1 long, 2 byte, 3 boolean, 4 of States, 5 of Leaves, 9 the script) or an object (number of its class in vwCl, its fields). -/
abbrev mm_C : Type := (Nat × vp_A) ⊕ (Nat × List Value)
abbrev mm_H : Type := Nat → Option mm_C
abbrev mm_L : Type := List (Nat × Value)
abbrev mm_O : Type := Option (Option Value × mm_H)
abbrev mm_F : Type := List Value → mm_H → mm_O
/-- pc, instruction, length, the constant that it pushes or adds -/
abbrev mm_I : Type := Nat × Instr × Nat × Int32
/-- code; fields (index: class, place, type 0 int 1 boolean 2 reference 3 long 4 final reference); calls (index: kind 0 virtual 1 static 2 arraycopy 4 Math.min 5 Math.max, how many arguments, returns 0 nothing 1 int, the function); int constants; long constants; cuts (pc: the locals that live); switches (pc: values and targets, default); returns 0 nothing 1 boolean 2 int -/
abbrev mm_P : Type := List mm_I × List (Nat × Nat × Nat × Nat) × List (Nat × Nat × Nat × Nat × mm_F) × List (Nat × Int32) × List (Nat × Int64) × List (Nat × List Nat) × List (Nat × List (Int32 × Nat) × Nat) × Nat
def mm_up (h : mm_H) (a : Nat) (c : mm_C) : mm_H := fun n => if n = a then some c else h n
def mm_lk {α : Type} : List (Nat × α) → Nat → Option α
  | [], _ => none
  | q :: r, n => match Nat.beq q.1 n with
    | true => some q.2
    | false => mm_lk r n
def mm_find : List mm_I → Nat → List mm_I
  | [], _ => []
  | q :: r, n => match Nat.beq q.1 n with
    | true => q :: r
    | false => mm_find r n
def mm_seek (cd cs : List mm_I) (n : Nat) : List mm_I := match cs with
  | [] => []
  | q :: r => match Nat.beq q.1 n with
    | true => q :: r
    | false => mm_find cd n
-- reads and writes
def mm_gi (ci k : Nat) (h : mm_H) (a : Nat) : Option Int32 := match h a with
  | some (.inr (c, fs)) => if c = ci then (match fs[k]? with
    | some (.int x) => some x
    | _ => none) else none
  | _ => none
def mm_gl (ci k : Nat) (h : mm_H) (a : Nat) : Option Int64 := match h a with
  | some (.inr (c, fs)) => if c = ci then (match fs[k]? with
    | some (.long x) => some x
    | _ => none) else none
  | _ => none
def mm_gr (ci k : Nat) (h : mm_H) (a : Nat) : Option Nat := match h a with
  | some (.inr (c, fs)) => if c = ci then (match fs[k]? with
    | some (.ref x) => some x
    | _ => none) else none
  | _ => none
def mm_pf (ci k : Nat) (v : Value) (h : mm_H) (a : Nat) : Option mm_H := match h a with
  | some (.inr (c, fs)) => if c = ci ∧ k < fs.length then some (mm_up h a (.inr (c, fs.set k v))) else none
  | _ => none
def mm_li (h : mm_H) (a : Nat) (i : Int32) : Option Int32 := match h a with
  | some (.inl (t, n, .inl f)) => if t = 0 ∨ t = 9 then (if i < 0 ∨ n ≤ i.toNatClampNeg then none else some (f i.toNatClampNeg)) else none
  | _ => none
def mm_lb (h : mm_H) (a : Nat) (i : Int32) : Option Int32 := match h a with
  | some (.inl (t, n, .inl f)) => if t = 2 ∨ t = 3 then (if i < 0 ∨ n ≤ i.toNatClampNeg then none else some (f i.toNatClampNeg)) else none
  | _ => none
def mm_ll (h : mm_H) (a : Nat) (i : Int32) : Option Int64 := match h a with
  | some (.inl (t, n, .inr (.inl f))) => if t = 1 then (if i < 0 ∨ n ≤ i.toNatClampNeg then none else some (f i.toNatClampNeg)) else none
  | _ => none
def mm_lr (h : mm_H) (a : Nat) (i : Int32) : Option Nat := match h a with
  | some (.inl (t, n, .inr (.inr (.inr (.inr f))))) => if t = 4 ∨ t = 5 then (if i < 0 ∨ n ≤ i.toNatClampNeg then none else f i.toNatClampNeg) else none
  | _ => none
def mm_ln (h : mm_H) (a : Nat) : Option Int32 := match h a with
  | some (.inl (t, n, .inl _)) => if t = 9 then some (Int32.ofNat n) else none
  | _ => none
def mm_si (h : mm_H) (a : Nat) (i x : Int32) : Option mm_H := match h a with
  | some (.inl (t, n, .inl f)) => if t = 0 then (if i < 0 ∨ n ≤ i.toNatClampNeg then none else some (mm_up h a (.inl (0, n, .inl (upd f i.toNatClampNeg x))))) else none
  | _ => none
def mm_sb (h : mm_H) (a : Nat) (i x : Int32) : Option mm_H := match h a with
  | some (.inl (t, n, .inl f)) => if i < 0 ∨ n ≤ i.toNatClampNeg then none else
      (if t = 2 then some (mm_up h a (.inl (2, n, .inl (upd f i.toNatClampNeg (vp_nar .byte x)))))
       else if t = 3 then some (mm_up h a (.inl (3, n, .inl (upd f i.toNatClampNeg (vp_nar .boolean x))))) else none)
  | _ => none
def mm_sl (h : mm_H) (a : Nat) (i : Int32) (x : Int64) : Option mm_H := match h a with
  | some (.inl (t, n, .inr (.inl f))) => if t = 1 then (if i < 0 ∨ n ≤ i.toNatClampNeg then none else some (mm_up h a (.inl (1, n, .inr (.inl (vp_updL f i.toNatClampNeg x)))))) else none
  | _ => none
/-- the class whose objects an array of that tag holds -/
def mm_ob (t : Nat) : Nat := if t = 4 then 8 else 2
def mm_sr (h : mm_H) (a : Nat) (i : Int32) (v : Nat) : Option mm_H := match h a, h v with
  | some (.inl (t, n, .inr (.inr (.inr (.inr f))))), some (.inr (c, _)) => if (t = 4 ∨ t = 5) ∧ c = mm_ob t then (if i < 0 ∨ n ≤ i.toNatClampNeg then none else some (mm_up h a (.inl (t, n, .inr (.inr (.inr (.inr (va_up f i.toNatClampNeg (some v))))))))) else none
  | _, _ => none
def mm_cp (h : mm_H) (a0 : Nat) (sp : Int32) (a : Nat) (dp n : Int32) : Option mm_H := match h a0, h a with
  | some (.inl (t0, n0, .inl f)), some (.inl (t1, n1, .inl g)) => if t0 = 0 ∧ t1 = 0 ∧ ¬ sp < 0 ∧ ¬ dp < 0 ∧ ¬ n < 0 ∧ sp.toNatClampNeg + n.toNatClampNeg ≤ n0 ∧ dp.toNatClampNeg + n.toNatClampNeg ≤ n1 then
      some (mm_up h a (.inl (0, n1, .inl (va_cpy f g sp.toNatClampNeg dp.toNatClampNeg n.toNatClampNeg)))) else none
  | _, _ => none
/-- what is left of a division -/
def mm_rem (x y : Int32) : Int32 := x - x / y * y
def mm_min (x y : Int32) : Int32 := if y < x then y else x
def mm_max (x y : Int32) : Int32 := if x < y then y else x
def mm_ushr (x y : Int32) : Int32 := (x.toUInt32 >>> (y.toUInt32 &&& Int32.toUInt32 31)).toInt32
-- locals
def mm_ld (lv : mm_L) (i : Nat) : Option Value := mm_lk lv i
def mm_s1 (lv : mm_L) (i : Nat) (v : Value) : mm_L := (i, v) :: lv.filter (fun q => !(q.1 == i) && !(q.1 + 1 == i && q.2.category == 2))
def mm_s2 (lv : mm_L) (i : Nat) (v : Value) : mm_L := (i, v) :: lv.filter (fun q => !(q.1 == i) && (!(q.1 == i + 1) && !(q.1 + 1 == i && q.2.category == 2)))
def mm_pk (lv : mm_L) : List Nat → Option (List Value)
  | [] => some []
  | i :: r => match mm_lk lv i, mm_pk lv r with
    | some v, some vs => some (v :: vs)
    | _, _ => none
-- the operand stack
section MMS
variable {ρ : Type}
def mm_i1 (st : List Value) (k : Int32 → List Value → Option ρ) : Option ρ := match st with
  | .int x :: r => k x r
  | _ => none
def mm_i2 (st : List Value) (k : Int32 → Int32 → List Value → Option ρ) : Option ρ := match st with
  | .int y :: .int x :: r => k x y r
  | _ => none
def mm_l1 (st : List Value) (k : Int64 → List Value → Option ρ) : Option ρ := match st with
  | .long x :: r => k x r
  | _ => none
def mm_l2 (st : List Value) (k : Int64 → Int64 → List Value → Option ρ) : Option ρ := match st with
  | .long y :: .long x :: r => k x y r
  | _ => none
def mm_li2 (st : List Value) (k : Int64 → Int32 → List Value → Option ρ) : Option ρ := match st with
  | .int y :: .long x :: r => k x y r
  | _ => none
def mm_r1 (st : List Value) (k : Nat → List Value → Option ρ) : Option ρ := match st with
  | .ref a :: r => k a r
  | _ => none
def mm_ri2 (st : List Value) (k : Nat → Int32 → List Value → Option ρ) : Option ρ := match st with
  | .int i :: .ref a :: r => k a i r
  | _ => none
def mm_rii (st : List Value) (k : Nat → Int32 → Int32 → List Value → Option ρ) : Option ρ := match st with
  | .int x :: .int i :: .ref a :: r => k a i x r
  | _ => none
def mm_ril (st : List Value) (k : Nat → Int32 → Int64 → List Value → Option ρ) : Option ρ := match st with
  | .long x :: .int i :: .ref a :: r => k a i x r
  | _ => none
def mm_rir (st : List Value) (k : Nat → Int32 → Nat → List Value → Option ρ) : Option ρ := match st with
  | .ref v :: .int i :: .ref a :: r => k a i v r
  | _ => none
def mm_rr (st : List Value) (k : Nat → Nat → List Value → Option ρ) : Option ρ := match st with
  | .ref v :: .ref a :: r => k a v r
  | _ => none
def mm_rl (st : List Value) (k : Nat → Int64 → List Value → Option ρ) : Option ρ := match st with
  | .long v :: .ref a :: r => k a v r
  | _ => none
def mm_ri2' (st : List Value) (k : Nat → Int32 → List Value → Option ρ) : Option ρ := match st with
  | .int x :: .ref a :: r => k a x r
  | _ => none
def mm_acp (st : List Value) (k : Nat → Int32 → Nat → Int32 → Int32 → List Value → Option ρ) : Option ρ := match st with
  | .int n :: .int dp :: .ref a :: .int sp :: .ref a0 :: r => k a0 sp a dp n r
  | _ => none
def mm_pop : Nat → List Value → List Value → (List Value → List Value → Option ρ) → Option ρ
  | 0, acc, st, k => k acc st
  | _ + 1, _, [], _ => none
  | n + 1, acc, v :: st, k => mm_pop n (v :: acc) st k
def mm_cv (o : mm_O) (k : mm_H → Option ρ) : Option ρ := match o with
  | some (none, h) => k h
  | _ => none
def mm_ci (o : mm_O) (k : Int32 → mm_H → Option ρ) : Option ρ := match o with
  | some (some (.int x), h) => k x h
  | _ => none
def mm_sw (x : Int32) (dflt : Nat) (go : Nat → Option ρ) : List (Int32 × Nat) → Option ρ
  | [] => go dflt
  | q :: r => if x = q.1 then go q.2 else mm_sw x dflt go r
def mm_tg (pc : Nat) (off : Int) : Nat := ((pc : Int) + off).toNat
def mm_cd (c : ClassFile.Cond) (x y : Int32) (t f : Option ρ) : Option ρ := match c with
  | .eq => if x = y then t else f
  | .ne => if x = y then f else t
  | .lt => if x < y then t else f
  | .ge => if x < y then f else t
  | .gt => if y < x then t else f
  | .le => if y < x then f else t
def mm_wt (st : List Value) : Nat := (st.map fun v => v.category).sum
abbrev mm_G (ρ : Type) : Type := Nat → mm_L → List Value → mm_H → Option ρ
/-- one instruction -/
def mm_st (P : mm_P) (kr : Option Value → mm_H → Option ρ) (go : mm_G ρ) (q : mm_I) (lv : mm_L) (st : List Value) (h : mm_H) : Option ρ := match q.2.1 with
  | .iconst _ => go (q.1 + 1) lv (.int q.2.2.2 :: st) h
  | .bipush _ => go (q.1 + 2) lv (.int q.2.2.2 :: st) h
  | .sipush _ => go (q.1 + 3) lv (.int q.2.2.2 :: st) h
  | .lconst n => go (q.1 + 1) lv (.long (Int64.ofNat n.1) :: st) h
  | .ldc i => (mm_lk P.2.2.2.1 i).bind fun v => go (q.1 + 2) lv (.int v :: st) h
  | .ldc_w i => (mm_lk P.2.2.2.1 i).bind fun v => go (q.1 + 3) lv (.int v :: st) h
  | .ldc2_w i => (mm_lk P.2.2.2.2.1 i).bind fun v => go (q.1 + 3) lv (.long v :: st) h
  | .iload i => (match mm_ld lv i with
    | some (.int x) => go (q.1 + 2) lv (.int x :: st) h
    | _ => none)
  | .iload_n i => (match mm_ld lv i.1 with
    | some (.int x) => go (q.1 + 1) lv (.int x :: st) h
    | _ => none)
  | .lload i => (match mm_ld lv i with
    | some (.long x) => go (q.1 + 2) lv (.long x :: st) h
    | _ => none)
  | .lload_n i => (match mm_ld lv i.1 with
    | some (.long x) => go (q.1 + 1) lv (.long x :: st) h
    | _ => none)
  | .aload i => (match mm_ld lv i with
    | some (.ref x) => go (q.1 + 2) lv (.ref x :: st) h
    | _ => none)
  | .aload_n i => (match mm_ld lv i.1 with
    | some (.ref x) => go (q.1 + 1) lv (.ref x :: st) h
    | _ => none)
  | .istore i => mm_i1 st fun x r => go (q.1 + 2) (mm_s1 lv i (.int x)) r h
  | .istore_n i => mm_i1 st fun x r => go (q.1 + 1) (mm_s1 lv i.1 (.int x)) r h
  | .astore i => mm_r1 st fun x r => go (q.1 + 2) (mm_s1 lv i (.ref x)) r h
  | .astore_n i => mm_r1 st fun x r => go (q.1 + 1) (mm_s1 lv i.1 (.ref x)) r h
  | .lstore i => mm_l1 st fun x r => go (q.1 + 2) (mm_s2 lv i (.long x)) r h
  | .lstore_n i => mm_l1 st fun x r => go (q.1 + 1) (mm_s2 lv i.1 (.long x)) r h
  | .iinc i _ => (match mm_ld lv i with
    | some (.int x) => go (q.1 + 3) (mm_s1 lv i (.int (x + q.2.2.2))) st h
    | _ => none)
  | .iadd => mm_i2 st fun x y r => go (q.1 + 1) lv (.int (x + y) :: r) h
  | .isub => mm_i2 st fun x y r => go (q.1 + 1) lv (.int (x - y) :: r) h
  | .imul => mm_i2 st fun x y r => go (q.1 + 1) lv (.int (x * y) :: r) h
  | .idiv => mm_i2 st fun x y r => if y = 0 then none else go (q.1 + 1) lv (.int (x / y) :: r) h
  | .irem => mm_i2 st fun x y r => if y = 0 then none else go (q.1 + 1) lv (.int (mm_rem x y) :: r) h
  | .iand => mm_i2 st fun x y r => go (q.1 + 1) lv (.int (x &&& y) :: r) h
  | .ior => mm_i2 st fun x y r => go (q.1 + 1) lv (.int (x ||| y) :: r) h
  | .ixor => mm_i2 st fun x y r => go (q.1 + 1) lv (.int (x ^^^ y) :: r) h
  | .ishl => mm_i2 st fun x y r => go (q.1 + 1) lv (.int (x <<< (y &&& 31)) :: r) h
  | .ishr => mm_i2 st fun x y r => go (q.1 + 1) lv (.int (x >>> (y &&& 31)) :: r) h
  | .iushr => mm_i2 st fun x y r => go (q.1 + 1) lv (.int (mm_ushr x y) :: r) h
  | .ladd => mm_l2 st fun x y r => go (q.1 + 1) lv (.long (x + y) :: r) h
  | .lsub => mm_l2 st fun x y r => go (q.1 + 1) lv (.long (x - y) :: r) h
  | .lmul => mm_l2 st fun x y r => go (q.1 + 1) lv (.long (x * y) :: r) h
  | .land => mm_l2 st fun x y r => go (q.1 + 1) lv (.long (x &&& y) :: r) h
  | .lor => mm_l2 st fun x y r => go (q.1 + 1) lv (.long (x ||| y) :: r) h
  | .lcmp => mm_l2 st fun x y r => go (q.1 + 1) lv (.int (lg_cmp x y) :: r) h
  | .lshl => mm_li2 st fun x y r => go (q.1 + 1) lv (.long (x <<< (y.toInt64 &&& 63)) :: r) h
  | .lshr => mm_li2 st fun x y r => go (q.1 + 1) lv (.long (x >>> (y.toInt64 &&& 63)) :: r) h
  | .i2l => mm_i1 st fun x r => go (q.1 + 1) lv (.long x.toInt64 :: r) h
  | .l2i => mm_l1 st fun x r => go (q.1 + 1) lv (.int x.toInt32 :: r) h
  | .i2b => mm_i1 st fun x r => go (q.1 + 1) lv (.int x.toInt8.toInt32 :: r) h
  | .dup => (match st with
    | .int x :: r => go (q.1 + 1) lv (.int x :: .int x :: r) h
    | .ref x :: r => go (q.1 + 1) lv (.ref x :: .ref x :: r) h
    | _ => none)
  | .dup2 => mm_ri2 st fun a i r => go (q.1 + 1) lv (.int i :: .ref a :: .int i :: .ref a :: r) h
  | .pop => mm_i1 st fun _ r => go (q.1 + 1) lv r h
  | .goto o => go (mm_tg q.1 o) lv st h
  | .ifCond c o => mm_i1 st fun x r => mm_cd c x 0 (go (mm_tg q.1 o) lv r h) (go (q.1 + 3) lv r h)
  | .if_icmp c o => mm_i2 st fun x y r => mm_cd c x y (go (mm_tg q.1 o) lv r h) (go (q.1 + 3) lv r h)
  | .tableswitch _ _ _ _ => mm_i1 st fun x r => (mm_lk P.2.2.2.2.2.2.1 q.1).bind fun w => mm_sw x w.2 (fun t => go t lv r h) w.1
  | .lookupswitch _ _ => mm_i1 st fun x r => (mm_lk P.2.2.2.2.2.2.1 q.1).bind fun w => mm_sw x w.2 (fun t => go t lv r h) w.1
  | .getfield i => mm_r1 st fun a r => (mm_lk P.2.1 i).bind fun w => (match w.2.2 with
    | 0 => (mm_gi w.1 w.2.1 h a).bind fun x => go (q.1 + 3) lv (.int x :: r) h
    | 1 => (mm_gi w.1 w.2.1 h a).bind fun x => go (q.1 + 3) lv (.int x :: r) h
    | 3 => (mm_gl w.1 w.2.1 h a).bind fun x => go (q.1 + 3) lv (.long x :: r) h
    | _ => (mm_gr w.1 w.2.1 h a).bind fun x => go (q.1 + 3) lv (.ref x :: r) h)
  | .putfield i => (mm_lk P.2.1 i).bind fun w => (match w.2.2 with
    | 0 => mm_ri2' st fun a x r => (mm_pf w.1 w.2.1 (.int x) h a).bind fun h' => go (q.1 + 3) lv r h'
    | 1 => mm_ri2' st fun a x r => if x = 0 ∨ x = 1 then (mm_pf w.1 w.2.1 (.int x) h a).bind fun h' => go (q.1 + 3) lv r h' else none
    | 2 => mm_rr st fun a x r => (mm_pf w.1 w.2.1 (.ref x) h a).bind fun h' => go (q.1 + 3) lv r h'
    | 3 => mm_rl st fun a x r => (mm_pf w.1 w.2.1 (.long x) h a).bind fun h' => go (q.1 + 3) lv r h'
    | _ => none)
  | .iaload => mm_ri2 st fun a i r => (mm_li h a i).bind fun x => go (q.1 + 1) lv (.int x :: r) h
  | .baload => mm_ri2 st fun a i r => (mm_lb h a i).bind fun x => go (q.1 + 1) lv (.int x :: r) h
  | .laload => mm_ri2 st fun a i r => (mm_ll h a i).bind fun x => go (q.1 + 1) lv (.long x :: r) h
  | .aaload => mm_ri2 st fun a i r => (mm_lr h a i).bind fun x => go (q.1 + 1) lv (.ref x :: r) h
  | .arraylength => mm_r1 st fun a r => (mm_ln h a).bind fun x => go (q.1 + 1) lv (.int x :: r) h
  | .iastore => mm_rii st fun a i x r => (mm_si h a i x).bind fun h' => go (q.1 + 1) lv r h'
  | .bastore => mm_rii st fun a i x r => (mm_sb h a i x).bind fun h' => go (q.1 + 1) lv r h'
  | .lastore => mm_ril st fun a i x r => (mm_sl h a i x).bind fun h' => go (q.1 + 1) lv r h'
  | .aastore => mm_rir st fun a i x r => (mm_sr h a i x).bind fun h' => go (q.1 + 1) lv r h'
  | .invokevirtual i => (mm_lk P.2.2.1 i).bind fun w => (match w.1 with
    | 0 => mm_pop (w.2.1 + 1) [] st fun as r => if mm_wt r ≤ 16 then (match w.2.2.1 with
      | 0 => mm_cv (w.2.2.2 as h) fun h' => go (q.1 + 3) lv r h'
      | _ => mm_ci (w.2.2.2 as h) fun x h' => go (q.1 + 3) lv (.int x :: r) h') else none
    | _ => none)
  | .invokestatic i => (mm_lk P.2.2.1 i).bind fun w => (match w.1 with
    | 1 => mm_pop w.2.1 [] st fun as r => if mm_wt r ≤ 16 then (match w.2.2.1 with
      | 0 => mm_cv (w.2.2.2 as h) fun h' => go (q.1 + 3) lv r h'
      | _ => mm_ci (w.2.2.2 as h) fun x h' => go (q.1 + 3) lv (.int x :: r) h') else none
    | 4 => mm_i2 st fun x y r => if mm_wt r ≤ 16 then go (q.1 + 3) lv (.int (mm_min x y) :: r) h else none
    | 5 => mm_i2 st fun x y r => if mm_wt r ≤ 16 then go (q.1 + 3) lv (.int (mm_max x y) :: r) h else none
    | 2 => mm_acp st fun a0 sp a dp n r => if mm_wt r ≤ 16 then (mm_cp h a0 sp a dp n).bind fun h' => go (q.1 + 3) lv r h' else none
    | _ => none)
  | .ireturn => (match st with
    | [.int x] => (match P.2.2.2.2.2.2.2 with
      | 1 => if x = 0 ∨ x = 1 then kr (some (.int x)) h else none
      | 2 => kr (some (.int x)) h
      | _ => none)
    | _ => none)
  | .return_ => (match st with
    | [] => (match P.2.2.2.2.2.2.2 with
      | 0 => kr none h
      | _ => none)
    | _ => none)
  | _ => none
def mm_in (P : mm_P) (kr : Option Value → mm_H → Option ρ) (kc : mm_G ρ) : Nat → List mm_I → mm_L → List Value → mm_H → Option ρ
  | 0, _, _, _, _ => none
  | _ + 1, [], _, _, _ => none
  | N + 1, q :: cs, lv, st, h => mm_st P kr (fun pc lv st h => match mm_lk P.2.2.2.2.2.1 pc with
    | some _ => kc pc lv st h
    | none => mm_in P kr kc N (mm_seek P.1 cs pc) lv st h) q lv st h
end MMS
def mm_run (P : mm_P) : Nat → Nat → List Value → List Value → mm_H → mm_O
  | 0, _, _, _, _ => none
  | f + 1, pc, vs, st, h => match mm_lk P.2.2.2.2.2.1 pc with
    | none => none
    | some ix => mm_in P (fun r h => some (r, h)) (fun pc' lv' st' h' => match mm_lk P.2.2.2.2.2.1 pc' with
      | none => none
      | some ix' => match mm_pk lv' ix' with
        | none => none
        | some vs' => mm_run P f pc' vs' st' h') 4000 (mm_find P.1 pc) (List.zip ix vs) st h
def mm_gd (ci : Nat) (args : List Value) (h : mm_H) (o : mm_O) : mm_O := match args with
  | .ref b :: _ => (match h b with
    | some (.inr (c, _)) => if c = ci then o else none
    | _ => none)
  | _ => none
/-- the categories of a method's arguments: 1 or 2 -/
def mm_cats (vs : List Value) : List Nat := vs.map fun v => v.category
def mm_ga (cats : List Nat) (args : List Value) (o : mm_O) : mm_O := if mm_cats args = cats then o else none
theorem mm_ga_is {cats : List Nat} {args : List Value} {o : mm_O} (h : mm_cats args = cats) : mm_ga cats args o = o := if_pos h
theorem mm_gd_is {ci : Nat} {b : Nat} {as : List Value} {h : mm_H} {fs : List Value} {o : mm_O} (hb : h b = some (.inr (ci, fs))) : mm_gd ci (.ref b :: as) h o = o := by
  simp [mm_gd, hb]
/-- how many cuts a method may pass -/
def mm_fu : Nat := 99999
theorem mm_fu_le {n : Nat} (h : Nat.ble n 99999 = true) : n ≤ mm_fu := Nat.le_of_ble_eq_true h
