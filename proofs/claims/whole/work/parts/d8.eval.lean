/-! AS THEY ARE BORN: both constructors, run -/
def hA0 : mm_H := mm_up (fun _ => none) 1 (.inr (11, [.null, .null, .null, .null, .int 0, .int 0, .int 0, .int 0, .int 0, .null, .null, .null, .null, .null, .null, .null]))
def hA : mm_H := (fi_Ls [.ref 1] hA0 2).getD (fun _ => none)
def hM0 : mm_H := mm_up (fun _ => none) 618 (.inr (12, [.int 0, .null, .int 0, .int 0, .null, .null, .null, .int 0, .int 0, .null, .null, .null, .null, .null, .null, .int 0, .int 0, .int 0, .int 0, .int 0, .int 0, .int 0, .null, .null, .null, .null, .null]))
def hM : mm_H := (fi_Md [.ref 618] hM0 619).getD (fun _ => none)
set_option maxRecDepth 100000 in
theorem ev_Ls : (fi_Ls [.ref 1] hA0 2).isSome = true := by decide +kernel
