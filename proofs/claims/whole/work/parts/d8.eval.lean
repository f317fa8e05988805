/-! AS THEY ARE BORN: both constructors, run -/
def hA0 : mm_H := mm_up (fun _ => none) 1 (.inr (11, [.null, .null, .null, .null, .int 0, .int 0, .int 0, .int 0, .int 0, .null, .null, .null, .null, .null, .null, .null]))
def hA : mm_H := (fi_Ls [.ref 1] hA0 2).getD (fun _ => none)
def hM0 : mm_H := mm_up (fun _ => none) 618 (.inr (12, [.int 0, .null, .int 0, .int 0, .null, .null, .null, .int 0, .int 0, .null, .null, .null, .null, .null, .null, .int 0, .int 0, .int 0, .int 0, .int 0, .int 0, .int 0, .null, .null, .null, .null, .null]))
def hM : mm_H := (fi_Md [.ref 618] hM0 619).getD (fun _ => none)
/-- two cells hold the same -/
def ckc : Option mm_C → Option mm_C → Bool
  | some (.inr a), some (.inr b) => decide (a.1 = b.1) && decide (a.2 = b.2)
  | some (.inl (t, n, .inl f)), some (.inl (u, m, .inl g)) => Nat.beq t u && (Nat.beq n m && (List.range n).all (fun i => decide (f i = g i)))
  | some (.inl (t, n, .inr (.inl f))), some (.inl (u, m, .inr (.inl g))) => Nat.beq t u && (Nat.beq n m && (List.range n).all (fun i => decide (f i = g i)))
  | some (.inl (t, n, .inr (.inr (.inr (.inr f))))), some (.inl (u, m, .inr (.inr (.inr (.inr g))))) => Nat.beq t u && (Nat.beq n m && (List.range n).all (fun i => decide (f i = g i)))
  | _, _ => false
/-- the class as it is born -/
def iv : Nat → Nat → Int32
  | 11, 6 => -1
  | 11, 8 => -1
  | 4, 8 => 4
  | 4, 9 => 2
  | 2, 4 => 4
  | 1, 5 => -1
  | 1, 6 => -1
  | 8, 7 => 2
  | _, _ => 0
def rv1 : Nat → Nat
  | 9 => 38
  | 10 => 59
  | 11 => 80
  | 12 => 83
  | 13 => 86
  | 14 => 114
  | _ => 0
def gA : GG := (fun n k => match sh n with
  | some (.inr (ci, _)) => iv ci k
  | _ => 0, fun n k => if n = 5 then lL (pkL 32 (resC.getD k [])) else 0, fun n k => if n = 1 then rv1 k else if n = 6 then (if k = 1 then 7 else 28) else if n = 37 then 170 + 28 * k else 38)
set_option maxRecDepth 100000 in
theorem ev_Ls : ((fi_Ls [.ref 1] hA0 2).isSome && (List.range 617).all (fun n => ckc (hA (n + 1)) (hp gA (n + 1)))) = true := by decide +kernel
