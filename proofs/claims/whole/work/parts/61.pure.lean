/-! THE PURE RUN: what the reference's days do to its fields, as functions of S (its fields) and G (its glass) -/
def u1 (S : oV) (k : Nat) (i x : Int) : oV := sF S k (gUz (S k) i x)
def s1 (S : oV) (k : Nat) (x : Int) : oV := sF S k (fun _ => x)
theorem u1_r {S : oV} {k j : Nat} {i x m : Int} : u1 S k i x j m = if j = k then (if m = i then x else S k m) else S j m := by
  unfold u1 sF gUz
  split
  · rfl
  · rfl
theorem s1_r {S : oV} {k j : Nat} {x m : Int} : s1 S k x j m = if j = k then x else S j m := by
  unfold s1 sF
  split <;> rfl
/-- n rounds, j = 0, 1 .. -/
def it {α : Type} (f : Int → α → α) : Nat → α → α
  | 0, s => s
  | n + 1, s => f n (it f n s)
def anyB : Nat → (Int → Bool) → Bool
  | 0, _ => false
  | n + 1, P => anyB n P || P n
def cnt : Nat → (Int → Bool) → Int
  | 0, _ => 0
  | n + 1, P => cnt n P + (if P n = true then 1 else 0)
/-- the first of n from lo on, else d -/
def fst1 (P : Int → Bool) (d : Int) : Nat → Int → Int
  | 0, _ => d
  | n + 1, lo => if P lo = true then lo else fst1 P d n (lo + 1)
def hereB (G : oV) (p d : Int) : Bool := anyB (G 15 p).toNat (fun i => decide (G 16 (3 * p + i) ≤ d) && decide (d ≤ G 17 (3 * p + i)))
def comesB (G : oV) (p d : Int) : Bool := anyB (G 15 p).toNat (fun i => decide (G 16 (3 * p + i) = d))
def goesB (G : oV) (p d : Int) : Bool := anyB (G 15 p).toNat (fun i => decide (G 17 (3 * p + i) = d))
def kindF (S : oV) (p : Int) : Int := if S 40 0 = -1 then S 18 p else S 40 0
def habitF (S : oV) (p : Int) : Int := if S 39 0 = -1 then S 18 (7 + p) else S 39 0
def inGl (G S : oV) (x : Int) : Int := cnt (G 1 0).toNat (fun k => decide (¬ S 31 k = -2) && decide (S 24 (S 31 k) = x))
def chosF (G S : oV) (p : Int) : Int := if habitF S p = 0 then G 12 (6 * p) else if habitF S p = 1 then
    let i := fst1 (fun i => decide (inGl G S (G 12 (6 * p + i)) = 0)) (-1) (G 11 p).toNat 0
    if i < 0 then G 12 (6 * p) else G 12 (6 * p + i)
  else it (fun i best => if inGl G S (G 12 (6 * p + i)) < inGl G S best then G 12 (6 * p + i) else best) (G 11 p).toNat (G 12 (6 * p))
def freeF (G S : oV) : Int := fst1 (fun k => decide (S 31 k = -2)) 8 (G 1 0).toNat 0
def putsF (G S : oV) (p : Int) : oV :=
  let f := freeF G S
  let S2 := u1 (u1 S 29 p f) 30 p f
  if f < 8 then u1 S2 31 f (S 28 p) else S2
def buysF (G S : oV) (p d : Int) : oV :=
  let b := S 35 0
  let S2 := u1 (s1 S 35 (b + 1)) 23 b p
  putsF G (u1 (u1 (u1 (u1 (u1 S2 24 b (chosF G S2 p)) 25 b d) 26 b (-2)) 27 b 0) 28 p b) p
theorem fst1_spec (P : Int → Bool) (d : Int) : ∀ (n : Nat) (lo : Int), (∃ k, lo ≤ k ∧ k < lo + n ∧ fst1 P d n lo = k ∧ P k = true ∧ ∀ j, lo ≤ j → j < k → P j = false) ∨ (fst1 P d n lo = d ∧ ∀ j, lo ≤ j → j < lo + n → P j = false)
  | 0, lo => Or.inr ⟨rfl, fun j h1 h2 => by omega⟩
  | n + 1, lo => by
    unfold fst1
    split
    · rename_i h
      exact Or.inl ⟨lo, by omega, by omega, rfl, h, fun j h1 h2 => by omega⟩
    · rename_i h
      have h : P lo = false := by simpa using h
      rcases fst1_spec P d n (lo + 1) with ⟨k, k1, k2, k3, k4, k5⟩ | ⟨k1, k2⟩
      · refine Or.inl ⟨k, by omega, by omega, k3, k4, fun j h1 h2 => ?_⟩
        by_cases e : j = lo
        · rw [e]; exact h
        · exact k5 j (by omega) h2
      · refine Or.inr ⟨k1, fun j h1 h2 => ?_⟩
        by_cases e : j = lo
        · rw [e]; exact h
        · exact k2 j (by omega) (by omega)
theorem freeF_spec {G S : oV} (h1 : 0 ≤ G 1 0) (h8 : G 1 0 ≤ 8) : (0 ≤ freeF G S ∧ freeF G S < G 1 0 ∧ S 31 (freeF G S) = -2 ∧ ∀ j, 0 ≤ j → j < freeF G S → S 31 j ≠ -2) ∨ (freeF G S = 8 ∧ ∀ j, 0 ≤ j → j < G 1 0 → S 31 j ≠ -2) := by
  unfold freeF
  rcases fst1_spec (fun k => decide (S 31 k = -2)) 8 (G 1 0).toNat 0 with ⟨k, k1, k2, k3, k4, k5⟩ | ⟨k1, k2⟩
  · rw [k3]
    exact Or.inl ⟨k1, by omega, of_decide_eq_true k4, fun j j1 j2 => of_decide_eq_false (k5 j j1 j2)⟩
  · rw [k1]
    exact Or.inr ⟨rfl, fun j j1 j2 => of_decide_eq_false (k2 j j1 (by omega))⟩
/-- what stands where, and whose it is, fits together; x: a person left out -/
def WSx (G S : oV) (x : Int) : Prop := 0 ≤ S 35 0
  ∧ (∀ k, 0 ≤ k → k < 8 → S 31 k = -2 ∨ (0 ≤ S 31 k ∧ S 31 k < S 35 0 ∧ k < G 1 0 ∧ S 23 (S 31 k) ≠ x ∧ S 28 (S 23 (S 31 k)) = S 31 k ∧ S 29 (S 23 (S 31 k)) = k))
  ∧ (∀ p, 0 ≤ p → p < 7 → p ≠ x → (S 28 p = -2 ∧ S 29 p = 10 ∧ S 30 p = -2) ∨ (0 ≤ S 28 p ∧ S 28 p < S 35 0 ∧ S 23 (S 28 p) = p ∧ (S 29 p = 8 ∨ S 29 p = 9 ∨ (0 ≤ S 29 p ∧ S 29 p < G 1 0 ∧ S 31 (S 29 p) = S 28 p)) ∧ 0 ≤ S 30 p ∧ (S 30 p < G 1 0 ∨ S 30 p = 8)))
  ∧ (∀ b, 0 ≤ b → b < S 35 0 → 0 ≤ S 23 b ∧ S 23 b < 7)
theorem putsF_r {G S : oV} {p m : Int} {j : Nat} : putsF G S p j m = if j = 29 then (if m = p then freeF G S else S 29 m) else if j = 30 then (if m = p then freeF G S else S 30 m) else if j = 31 then (if freeF G S < 8 ∧ m = freeF G S then S 28 p else S 31 m) else S j m := by
  unfold putsF
  by_cases h : freeF G S < 8 <;> simp only [h, if_true, if_false, u1_r] <;> grind
theorem WS_puts {G S : oV} {p : Int} (h1 : 0 ≤ G 1 0) (h8 : G 1 0 ≤ 8) (hp : 0 ≤ p) (hp7 : p < 7) (hw : WSx G S p) (ho : 0 ≤ S 28 p) (ho2 : S 28 p < S 35 0) (ho3 : S 23 (S 28 p) = p) : WSx G (putsF G S p) (-1) := by
  have hf := freeF_spec (S := S) h1 h8
  have hf : (0 ≤ freeF G S ∧ freeF G S < G 1 0 ∧ S 31 (freeF G S) = -2) ∨ freeF G S = 8 := by
    rcases hf with ⟨e1, e2, e3, e4⟩ | ⟨e1, e2⟩
    · exact Or.inl ⟨e1, e2, e3⟩
    · exact Or.inr e1
  obtain ⟨a1, a2, a3, a4⟩ := hw
  unfold WSx
  simp only [putsF_r, Nat.reduceEqDiff, if_false, if_true]
  generalize freeF G S = f at hf
  refine ⟨a1, ?_, ?_, ?_⟩
  · intro k k0 k8
    have e1 := a2 k k0 k8
    have e2 := a4 (S 31 k)
    clear a2 a3 a4
    grind
  · intro q q0 q7 qx
    have e1 := a3 q q0 q7
    have e2 := a2 (S 29 q)
    clear a2 a3 a4
    grind
  · exact a4
