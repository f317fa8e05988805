/-! THE REFERENCE AS IT IS BORN -/
def cI (c : Option mm_C) (k : Nat) : Int32 := match c with
  | some (.inl (_, _, .inl f)) => f k
  | some (.inr (_, fs)) => (match fs[k]? with
    | some (.int x) => x
    | _ => 0)
  | _ => 0
def cL (c : Option mm_C) (k : Nat) : Int64 := match c with
  | some (.inl (_, _, .inr (.inl f))) => f k
  | _ => 0
def gM : GG := (fun n => cI (hM n), fun n => cL (hM n), fun _ _ => 0)
/-- an array of that shape -/
def ckA (c : Option mm_C) (o : Option SH) : Bool := match c, o with
  | some (.inl (t, n, .inl _)), some (.inl (u, m)) => Nat.beq t u && (Nat.beq n m && (Nat.beq t 0 || Nat.beq t 3))
  | some (.inl (t, n, .inr (.inl _))), some (.inl (u, m)) => Nat.beq t u && (Nat.beq n m && Nat.beq t 1)
  | _, _ => false
set_option maxRecDepth 100000 in
theorem ev_Md : ((fi_Md [.ref 618] hM0 619).isSome && (ckc (hM 618) (hp gM 618) && (List.range 15).all (fun n => ckA (hM (n + 619)) (sh (n + 619))))) = true := by decide +kernel
