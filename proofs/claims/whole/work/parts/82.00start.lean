/-! the memory at the law's start; what is to be shown of the models -/
def mStart (L : Nat) (xs : Nat → Int32) : mM := (fun a k => if a = 1 then xs k else 0, fun _ _ => 0, fun _ _ => 0, fun _ _ => 0, fun a => if a = 1 then (98, L) else (99, 0), 2, 0)
