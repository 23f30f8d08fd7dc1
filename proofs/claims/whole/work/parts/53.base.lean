/-! THE START: what the constructors make, by evaluation -/
def b1 : Option (Option Nat × gH) := nwR (gOr 2000 40) 11 gF_11 87 a0 [] g0H
theorem b1_n : b1.map (fun x => (x.1, x.2.1.1)) = some (some 0, 305) := by decide +kernel
def b2 : Option (Option Nat × gH) := b1.bind fun x => nwR (gOr 2000 40) 13 gF_13 170 a0 [] x.2
theorem b2_n : b2.map (fun x => (x.1, x.2.1.1)) = some (some 305, 330) := by decide +kernel
def b3 : Option (Option Nat × gH) := b2.bind fun x => naR 2 (kI 1) [] x.2
theorem b3_n : b3.map (fun x => (x.1, x.2.1.1)) = some (some 330, 331) := by decide +kernel
/-- the shape of what lies at a number: 0 nothing; a class, its number of fields; a kind of array, its length -/
def shp (h : gH) (k : Nat) : Nat × Nat × Nat := match h.2 k with
  | some (.inl (c, fs)) => (1, c, fs.length)
  | some (.inr (.inl (t, n, _))) => (2, t, n)
  | some (.inr (.inr (t, n, _))) => (3, t, n)
  | none => (0, 0, 0)
theorem b3_room : b3.map (fun x => decide (x.2.1.2.1 ≤ 400 ∧ x.2.1.2.2 ≤ 20000)) = some true := by decide +kernel
theorem b3_shape : b3.map (fun x => [0, 2, 43, 84, 85, 92, 99, 235, 236, 257, 258, 279, 280, 294, 299, 302, 305].map (fun k => (shp x.2 k).2.1)) = some [11, 4, 4, 9, 10, 10, 5, 1, 0, 1, 0, 3, 0, 7, 6, 2, 13] := by decide +kernel
