/-! THE SEMANTICS: a small language of typed expressions and statements (shallow: each form is a function), over a heap of numbered objects.
    Java's ints and longs are Ints here, wrapped at each operation; a new object gets the next number. -/
abbrev gAV : Type := Int ⊕ (Int ⊕ (Option Nat ⊕ Nat))
abbrev vI (z : Int) : gAV := .inl z
abbrev vL (z : Int) : gAV := .inr (.inl z)
abbrev vR (r : Option Nat) : gAV := .inr (.inr (.inl r))
abbrev vS (i : Nat) : gAV := .inr (.inr (.inr i))
abbrev gOb : Type := (Nat × List gAV) ⊕ ((Nat × Nat × (Int → Int)) ⊕ (Nat × Nat × (Int → Option Nat)))
abbrev oO (ci : Nat) (fs : List gAV) : gOb := .inl (ci, fs)
abbrev oA (ty n : Nat) (f : Int → Int) : gOb := .inr (.inl (ty, n, f))
abbrev oQ (ty n : Nat) (f : Int → Option Nat) : gOb := .inr (.inr (ty, n, f))
/-- next number, cells made, slots made; the objects -/
abbrev gH : Type := (Nat × Nat × Nat) × (Nat → Option gOb)
abbrev gLo : Type := List (Option gAV)
abbrev gIE : Type := gLo → gH → Option (Int × gH)
abbrev gRE : Type := gLo → gH → Option (Option Nat × gH)
abbrev gSE : Type := gLo → gH → Option (Nat × gH)
abbrev gCE : Type := gLo → gH → Option (Bool × gH)
abbrev gAE : Type := gLo → gH → Option (List gAV × gH)
/-- none: goes on; 1 break, 2 continue, 3 return (its value), 4 throws -/
abbrev gEx : Type := Option (Nat × Option gAV)
abbrev gSt : Type := Nat → gLo → gH → Option (gEx × gLo × gH)
abbrev gOrc : Type := Nat → List gAV → gH → Option (Option gAV × gH)
def gUp {α : Type} (f : Nat → α) (k : Nat) (v : α) : Nat → α := fun j => if j = k then v else f j
def gUz {α : Type} (f : Int → α) (k : Int) (v : α) : Int → α := fun j => if j = k then v else f j
def wr (z : Int) : Int := z.bmod 4294967296
def wl (z : Int) : Int := z.bmod 18446744073709551616
def zAdd (x y : Int) : Int := wr (x + y)
def zSub (x y : Int) : Int := wr (x - y)
def zMul (x y : Int) : Int := wr (x * y)
def zDiv (x y : Int) : Int := wr (x.tdiv y)
def zRem (x y : Int) : Int := x.tmod y
def zAnd (x y : Int) : Int := (Int32.ofInt x &&& Int32.ofInt y).toInt
def zOr (x y : Int) : Int := (Int32.ofInt x ||| Int32.ofInt y).toInt
def zXor (x y : Int) : Int := (Int32.ofInt x ^^^ Int32.ofInt y).toInt
def zShl (x y : Int) : Int := (Int32.ofInt x <<< (Int32.ofInt y &&& 31)).toInt
def zShr (x y : Int) : Int := (Int32.ofInt x >>> (Int32.ofInt y &&& 31)).toInt
def zUsh (x y : Int) : Int := ((Int32.ofInt x).toUInt32 >>> ((Int32.ofInt y).toUInt32 &&& Int32.toUInt32 31)).toInt32.toInt
def zMax (x y : Int) : Int := if x < y then y else x
def zMin (x y : Int) : Int := if y < x then y else x
def lAdd (x y : Int) : Int := wl (x + y)
def lSub (x y : Int) : Int := wl (x - y)
def lMul (x y : Int) : Int := wl (x * y)
def lDiv (x y : Int) : Int := wl (x.tdiv y)
def lRem (x y : Int) : Int := x.tmod y
def zByte (x : Int) : Int := x.bmod 256
-- expressions
def kI (z : Int) : gIE := fun _ h => some (z, h)
def kS (i : Nat) : gSE := fun _ h => some (i, h)
def lI (i : Nat) : gIE := fun L h => match L[i]? with
  | some (some (.inl z)) => some (z, h)
  | _ => none
def lL (i : Nat) : gIE := fun L h => match L[i]? with
  | some (some (.inr (.inl z))) => some (z, h)
  | _ => none
def lR (i : Nat) : gRE := fun L h => match L[i]? with
  | some (some (.inr (.inr (.inl r)))) => some (r, h)
  | _ => none
def lS (i : Nat) : gSE := fun L h => match L[i]? with
  | some (some (.inr (.inr (.inr r)))) => some (r, h)
  | _ => none
def o1 (f : Int → Int) (a : gIE) : gIE := fun L h => (a L h).bind fun x => some (f x.1, x.2)
def o2 (f : Int → Int → Int) (a b : gIE) : gIE := fun L h => (a L h).bind fun x => (b L x.2).bind fun y => some (f x.1 y.1, y.2)
def o2p (f : Int → Int → Int) (a b : gIE) : gIE := fun L h => (a L h).bind fun x => (b L x.2).bind fun y => if y.1 = 0 then none else some (f x.1 y.1, y.2)
def gFld (ci k : Nat) (h : gH) (r : Option Nat) : Option gAV := match r with
  | some a => match h.2 a with
    | some (.inl (c, fs)) => if c = ci then fs[k]? else none
    | _ => none
  | none => none
def fI (ci k : Nat) (o : gRE) : gIE := fun L h => (o L h).bind fun x => match gFld ci k x.2 x.1 with
  | some (.inl z) => some (z, x.2)
  | _ => none
def fL (ci k : Nat) (o : gRE) : gIE := fun L h => (o L h).bind fun x => match gFld ci k x.2 x.1 with
  | some (.inr (.inl z)) => some (z, x.2)
  | _ => none
def fR (ci k : Nat) (o : gRE) : gRE := fun L h => (o L h).bind fun x => match gFld ci k x.2 x.1 with
  | some (.inr (.inr (.inl z))) => some (z, x.2)
  | _ => none
/-- kinds of arrays: 0 int, 1 byte, 2 long, 3 boolean -/
def gEl (ty : Nat) (h : gH) (r : Option Nat) (i : Int) : Option Int := match r with
  | some a => match h.2 a with
    | some (.inr (.inl (t, n, f))) => if t = ty ∧ 0 ≤ i ∧ i < n then some (f i) else none
    | _ => none
  | none => none
def gElq (ty : Nat) (h : gH) (r : Option Nat) (i : Int) : Option (Option Nat) := match r with
  | some a => match h.2 a with
    | some (.inr (.inr (t, n, f))) => if t = ty ∧ 0 ≤ i ∧ i < n then some (f i) else none
    | _ => none
  | none => none
def aI (ty : Nat) (a : gRE) (i : gIE) : gIE := fun L h => (a L h).bind fun x => (i L x.2).bind fun y => (gEl ty y.2 x.1 y.1).bind fun z => some (z, y.2)
def aQ (ty : Nat) (a : gRE) (i : gIE) : gRE := fun L h => (a L h).bind fun x => (i L x.2).bind fun y => (gElq ty y.2 x.1 y.1).bind fun z => some (z, y.2)
def gLen (h : gH) (r : Option Nat) : Option Int := match r with
  | some a => match h.2 a with
    | some (.inr (.inl (_, n, _))) => some n
    | _ => none
  | none => none
def aN (a : gRE) : gIE := fun L h => (a L h).bind fun x => (gLen x.2 x.1).bind fun z => some (z, x.2)
-- arguments and calls
def a0 : gAE := fun _ h => some ([], h)
def aCI (e : gIE) (r : gAE) : gAE := fun L h => (e L h).bind fun x => (r L x.2).bind fun y => some (vI x.1 :: y.1, y.2)
def aCL (e : gIE) (r : gAE) : gAE := fun L h => (e L h).bind fun x => (r L x.2).bind fun y => some (vL x.1 :: y.1, y.2)
def aCR (e : gRE) (r : gAE) : gAE := fun L h => (e L h).bind fun x => (r L x.2).bind fun y => some (vR x.1 :: y.1, y.2)
def aCS (e : gSE) (r : gAE) : gAE := fun L h => (e L h).bind fun x => (r L x.2).bind fun y => some (vS x.1 :: y.1, y.2)
def cI (C : gOrc) (m : Nat) (as : gAE) : gIE := fun L h => (as L h).bind fun x => match C m x.1 x.2 with
  | some (some (.inl z), h') => some (z, h')
  | _ => none
def cL (C : gOrc) (m : Nat) (as : gAE) : gIE := fun L h => (as L h).bind fun x => match C m x.1 x.2 with
  | some (some (.inr (.inl z)), h') => some (z, h')
  | _ => none
def cR (C : gOrc) (m : Nat) (as : gAE) : gRE := fun L h => (as L h).bind fun x => match C m x.1 x.2 with
  | some (some (.inr (.inr (.inl z))), h') => some (z, h')
  | _ => none
def gIte {α : Type} (c : gCE) (a b : gLo → gH → Option (α × gH)) : gLo → gH → Option (α × gH) := fun L h => (c L h).bind fun x => if x.1 = true then a L x.2 else b L x.2
/-- n slots more, a new object -/
def gPush (h : gH) (n : Nat) (o : gOb) : gH := ((h.1.1 + 1, h.1.2.1 + 1, h.1.2.2 + n), gUp h.2 h.1.1 (some o))
def nwR (C : gOrc) (ci : Nat) (fs : List gAV) (m : Nat) (as : gAE) : gRE := fun L h => (as L (gPush h fs.length (oO ci fs))).bind fun x => match C m (vR (some h.1.1) :: x.1) x.2 with
  | some (none, h') => some (some h.1.1, h')
  | _ => none
def naR (ty : Nat) (n : gIE) : gRE := fun L h => (n L h).bind fun x => if 0 ≤ x.1 ∧ x.1 ≤ 10000 then some (some x.2.1.1, gPush x.2 x.1.toNat (oA ty x.1.toNat (fun _ => 0))) else none
def nqR (ty : Nat) (n : gIE) : gRE := fun L h => (n L h).bind fun x => if 0 ≤ x.1 ∧ x.1 ≤ 10000 then some (some x.2.1.1, gPush x.2 x.1.toNat (oQ ty x.1.toNat (fun _ => none))) else none
-- conditions
def cmB (op : ClassFile.Cond) (x y : Int) : Bool := match op with
  | .eq => decide (x = y)
  | .ne => decide (¬ x = y)
  | .lt => decide (x < y)
  | .ge => decide (y ≤ x)
  | .gt => decide (y < x)
  | .le => decide (x ≤ y)
def cmC (op : ClassFile.Cond) (a b : gIE) : gCE := fun L h => (a L h).bind fun x => (b L x.2).bind fun y => some (cmB op x.1 y.1, y.2)
def czC (op : ClassFile.Cond) (a : gIE) : gCE := fun L h => (a L h).bind fun x => some (cmB op x.1 0, x.2)
def cnC (a : gRE) : gCE := fun L h => (a L h).bind fun x => some (x.1.isNone, x.2)
def notC (c : gCE) : gCE := fun L h => (c L h).bind fun x => some (!x.1, x.2)
def andC (c d : gCE) : gCE := fun L h => (c L h).bind fun x => if x.1 = true then d L x.2 else some (false, x.2)
def orC (c d : gCE) : gCE := fun L h => (c L h).bind fun x => if x.1 = true then some (true, x.2) else d L x.2
-- locals
def gClr : Nat → gLo → gLo
  | 0, L => L
  | i + 1, L => match L[i]? with
    | some (some (.inr (.inl _))) => L.set i none
    | _ => L
def gSet (i : Nat) (v : gAV) (L : gLo) : gLo := (gClr i L).set i (some v)
def gSet2 (i : Nat) (v : gAV) (L : gLo) : gLo := ((gClr i L).set i (some v)).set (i + 1) none
-- statements
def skS : gSt := fun _ L h => some (none, L, h)
def seS (a b : gSt) : gSt := fun n L h => (a n L h).bind fun x => match x.1 with
  | none => b n x.2.1 x.2.2
  | some e => some (some e, x.2)
def stI (i : Nat) (e : gIE) : gSt := fun _ L h => (e L h).bind fun x => some (none, gSet i (vI x.1) L, x.2)
def stL (i : Nat) (e : gIE) : gSt := fun _ L h => (e L h).bind fun x => some (none, gSet2 i (vL x.1) L, x.2)
def stR (i : Nat) (e : gRE) : gSt := fun _ L h => (e L h).bind fun x => some (none, gSet i (vR x.1) L, x.2)
def inS (i : Nat) (k : Int) : gSt := fun _ L h => match L[i]? with
  | some (some (.inl z)) => some (none, gSet i (vI (zAdd z k)) L, h)
  | _ => none
def gPut (ci k : Nat) (v : gAV) (h : gH) (r : Option Nat) : Option gH := match r with
  | some a => match h.2 a with
    | some (.inl (c, fs)) => if c = ci ∧ k < fs.length then some (h.1, gUp h.2 a (some (oO c (fs.set k v)))) else none
    | _ => none
  | none => none
def pfI (ci k : Nat) (o : gRE) (e : gIE) : gSt := fun _ L h => (o L h).bind fun x => (e L x.2).bind fun y => (gPut ci k (vI y.1) y.2 x.1).bind fun h' => some (none, L, h')
def pfZ (ci k : Nat) (o : gRE) (e : gIE) : gSt := fun _ L h => (o L h).bind fun x => (e L x.2).bind fun y => if y.1 = 0 ∨ y.1 = 1 then (gPut ci k (vI y.1) y.2 x.1).bind fun h' => some (none, L, h') else none
def pfL (ci k : Nat) (o : gRE) (e : gIE) : gSt := fun _ L h => (o L h).bind fun x => (e L x.2).bind fun y => (gPut ci k (vL y.1) y.2 x.1).bind fun h' => some (none, L, h')
def pfR (ci k : Nat) (o : gRE) (e : gRE) : gSt := fun _ L h => (o L h).bind fun x => (e L x.2).bind fun y => (gPut ci k (vR y.1) y.2 x.1).bind fun h' => some (none, L, h')
/-- o.k = f (o.k) e, o evaluated once -/
def puI (ci k : Nat) (f : Int → Int → Int) (o : gRE) (e : gIE) : gSt := fun _ L h => (o L h).bind fun x => match gFld ci k x.2 x.1 with
  | some (.inl z) => (e L x.2).bind fun y => (gPut ci k (vI (f z y.1)) y.2 x.1).bind fun h' => some (none, L, h')
  | _ => none
def puL (ci k : Nat) (f : Int → Int → Int) (o : gRE) (e : gIE) : gSt := fun _ L h => (o L h).bind fun x => match gFld ci k x.2 x.1 with
  | some (.inr (.inl z)) => (e L x.2).bind fun y => (gPut ci k (vL (f z y.1)) y.2 x.1).bind fun h' => some (none, L, h')
  | _ => none
def gNar (ty : Nat) (x : Int) : Option Int := match ty with
  | 1 => some (zByte x)
  | 3 => if x = 0 ∨ x = 1 then some x else none
  | _ => some x
def gEs (ty : Nat) (x : Int) (h : gH) (r : Option Nat) (i : Int) : Option gH := match r with
  | some a => match h.2 a with
    | some (.inr (.inl (t, n, f))) => if t = ty ∧ 0 ≤ i ∧ i < n then (gNar ty x).bind fun y => some (h.1, gUp h.2 a (some (oA t n (gUz f i y)))) else none
    | _ => none
  | none => none
def gEsq (ty : Nat) (x : Option Nat) (h : gH) (r : Option Nat) (i : Int) : Option gH := match r with
  | some a => match h.2 a with
    | some (.inr (.inr (t, n, f))) => if t = ty ∧ 0 ≤ i ∧ i < n then some (h.1, gUp h.2 a (some (oQ t n (gUz f i x)))) else none
    | _ => none
  | none => none
def asI (ty : Nat) (a : gRE) (i e : gIE) : gSt := fun _ L h => (a L h).bind fun x => (i L x.2).bind fun y => (e L y.2).bind fun z => (gEs ty z.1 z.2 x.1 y.1).bind fun h' => some (none, L, h')
def asQ (ty : Nat) (a : gRE) (i : gIE) (e : gRE) : gSt := fun _ L h => (a L h).bind fun x => (i L x.2).bind fun y => (e L y.2).bind fun z => (gEsq ty z.1 z.2 x.1 y.1).bind fun h' => some (none, L, h')
/-- a[i] = f (a[i]) e, a and i evaluated once -/
def auI (ty : Nat) (f : Int → Int → Int) (a : gRE) (i e : gIE) : gSt := fun _ L h => (a L h).bind fun x => (i L x.2).bind fun y => (gEl ty y.2 x.1 y.1).bind fun o => (e L y.2).bind fun z => (gEs ty (f o z.1) z.2 x.1 y.1).bind fun h' => some (none, L, h')
def cV (C : gOrc) (m : Nat) (as : gAE) : gSt := fun _ L h => (as L h).bind fun x => match C m x.1 x.2 with
  | some (none, h') => some (none, L, h')
  | _ => none
/-- an expression's value is dropped -/
def dpI {α : Type} (e : gLo → gH → Option (α × gH)) : gSt := fun _ L h => (e L h).bind fun x => some (none, L, x.2)
def ifS (c : gCE) (a b : gSt) : gSt := fun n L h => (c L h).bind fun x => if x.1 = true then a n L x.2 else b n L x.2
def whS (c : gCE) (b st : gSt) : gSt
  | 0, _, _ => none
  | n + 1, L, h => (c L h).bind fun x => if x.1 = true then (b n L x.2).bind fun y => match y.1 with
      | none => (st n y.2.1 y.2.2).bind fun z => match z.1 with
        | none => whS c b st n z.2.1 z.2.2
        | some _ => none
      | some (2, _) => (st n y.2.1 y.2.2).bind fun z => match z.1 with
        | none => whS c b st n z.2.1 z.2.2
        | some _ => none
      | some (1, _) => some (none, y.2)
      | some e => some (some e, y.2)
    else some (none, L, x.2)
def swS (e : gIE) (lo : Int) (cs : List gSt) (df : gSt) : gSt := fun n L h => (e L h).bind fun x => ((if lo ≤ x.1 then cs.getD (x.1 - lo).toNat df else df) n L x.2).bind fun y => match y.1 with
  | some (1, _) => some (none, y.2)
  | _ => some y
def brS : gSt := fun _ L h => some (some (1, none), L, h)
def cnS : gSt := fun _ L h => some (some (2, none), L, h)
def rtV : gSt := fun _ L h => some (some (3, none), L, h)
def rtI (e : gIE) : gSt := fun _ L h => (e L h).bind fun x => some (some (3, some (vI x.1)), L, x.2)
def rtL (e : gIE) : gSt := fun _ L h => (e L h).bind fun x => some (some (3, some (vL x.1)), L, x.2)
def rtR (e : gRE) : gSt := fun _ L h => (e L h).bind fun x => some (some (3, some (vR x.1)), L, x.2)
/-- System.arraycopy on arrays of a kind of numbers -/
def gCpy (f g : Int → Int) (sp dp n : Int) : Int → Int := fun j => if dp ≤ j ∧ j < dp + n then f (sp + (j - dp)) else g j
def gAc (ty : Nat) (h : gH) (r q : Option Nat) (sp dp n : Int) : Option gH := match r, q with
  | some a, some c => match h.2 a, h.2 c with
    | some (.inr (.inl (t, na, f))), some (.inr (.inl (u, nc, g))) => if t = ty ∧ u = ty ∧ a ≠ c ∧ 0 ≤ sp ∧ 0 ≤ dp ∧ 0 ≤ n ∧ sp + n ≤ na ∧ dp + n ≤ nc then some (h.1, gUp h.2 c (some (oA u nc (gCpy f g sp dp n)))) else none
    | _, _ => none
  | _, _ => none
def cpS (ty : Nat) (a : gRE) (sp : gIE) (c : gRE) (dp n : gIE) : gSt := fun _ L h => (a L h).bind fun x => (sp L x.2).bind fun y => (c L y.2).bind fun z => (dp L z.2).bind fun u => (n L u.2).bind fun w => (gAc ty w.2 x.1 z.1 y.1 u.1 w.1).bind fun h' => some (none, L, h')
-- methods
def gLay : List gAV → gLo
  | [] => []
  | .inr (.inl z) :: r => some (vL z) :: none :: gLay r
  | v :: r => some v :: gLay r
def gEnt (nL : Nat) (as : List gAV) : gLo := gLay as ++ List.replicate (nL - (gLay as).length) none
def gRun (nL : Nat) (body : gSt) (n : Nat) (as : List gAV) (h : gH) : Option (Option gAV × gH) := match body n (gEnt nL as) h with
  | some (some (3, v), _, h') => some (v, h')
  | _ => none
