/-! THE START: what the constructors make, by evaluation -/
def b1 : Option (Option Nat × gH) := nwR (gOr 2000 40) 11 gF_11 87 a0 [] g0H
theorem b1_n : b1.map (fun x => (x.1, x.2.1.1)) = some (some 0, 305) := by decide +kernel
