/-! THE PURE RUN: what the reference's days do to its fields, as functions of S (its fields) and G (its glass) -/
def u1 (S : oV) (k : Nat) (i x : Int) : oV := sF S k (gUz (S k) i x)
def s1 (S : oV) (k : Nat) (x : Int) : oV := sF S k (fun _ => x)
theorem u1_r {S : oV} {k j : Nat} {i x m : Int} : u1 S k i x j m = if j = k then (if m = i then x else S k m) else S j m := by
  unfold u1 sF gUz
  split
  · rfl
  · rfl
theorem s1_r {S : oV} {k j : Nat} {x m : Int} : s1 S k x j m = if j = k then x else S j m := by
  unfold s1 sF
  split <;> rfl
/-- n rounds, j = 0, 1 .. -/
def it {α : Type} (f : Int → α → α) : Nat → α → α
  | 0, s => s
  | n + 1, s => f n (it f n s)
def anyB : Nat → (Int → Bool) → Bool
  | 0, _ => false
  | n + 1, P => anyB n P || P n
def cnt : Nat → (Int → Bool) → Int
  | 0, _ => 0
  | n + 1, P => cnt n P + (if P n = true then 1 else 0)
/-- the first of n from lo on, else d -/
def fst1 (P : Int → Bool) (d : Int) : Nat → Int → Int
  | 0, _ => d
  | n + 1, lo => if P lo = true then lo else fst1 P d n (lo + 1)
def hereB (G : oV) (p d : Int) : Bool := anyB (G 15 p).toNat (fun i => decide (G 16 (3 * p + i) ≤ d) && decide (d ≤ G 17 (3 * p + i)))
def comesB (G : oV) (p d : Int) : Bool := anyB (G 15 p).toNat (fun i => decide (G 16 (3 * p + i) = d))
def goesB (G : oV) (p d : Int) : Bool := anyB (G 15 p).toNat (fun i => decide (G 17 (3 * p + i) = d))
def kindF (S : oV) (p : Int) : Int := if S 40 0 = -1 then S 18 p else S 40 0
def habitF (S : oV) (p : Int) : Int := if S 39 0 = -1 then S 18 (7 + p) else S 39 0
def inGl (G S : oV) (x : Int) : Int := cnt (G 1 0).toNat (fun k => decide (¬ S 31 k = -2) && decide (S 24 (S 31 k) = x))
def chosF (G S : oV) (p : Int) : Int := if habitF S p = 0 then G 12 (6 * p) else if habitF S p = 1 then
    let i := fst1 (fun i => decide (inGl G S (G 12 (6 * p + i)) = 0)) (-1) (G 11 p).toNat 0
    if i < 0 then G 12 (6 * p) else G 12 (6 * p + i)
  else it (fun i best => if inGl G S (G 12 (6 * p + i)) < inGl G S best then G 12 (6 * p + i) else best) (G 11 p).toNat (G 12 (6 * p))
def freeF (G S : oV) : Int := fst1 (fun k => decide (S 31 k = -2)) 8 (G 1 0).toNat 0
def putsF (G S : oV) (p : Int) : oV :=
  let f := freeF G S
  let S2 := u1 (u1 S 29 p f) 30 p f
  if f < 8 then u1 S2 31 f (S 28 p) else S2
def buysF (G S : oV) (p d : Int) : oV :=
  let b := S 35 0
  let S2 := u1 (s1 S 35 (b + 1)) 23 b p
  putsF G (u1 (u1 (u1 (u1 (u1 S2 24 b (chosF G S2 p)) 25 b d) 26 b (-2)) 27 b 0) 28 p b) p
theorem fst1_spec (P : Int → Bool) (d : Int) : ∀ (n : Nat) (lo : Int), (∃ k, lo ≤ k ∧ k < lo + n ∧ fst1 P d n lo = k ∧ P k = true ∧ ∀ j, lo ≤ j → j < k → P j = false) ∨ (fst1 P d n lo = d ∧ ∀ j, lo ≤ j → j < lo + n → P j = false)
  | 0, lo => Or.inr ⟨rfl, fun j h1 h2 => by omega⟩
  | n + 1, lo => by
    unfold fst1
    split
    · rename_i h
      exact Or.inl ⟨lo, by omega, by omega, rfl, h, fun j h1 h2 => by omega⟩
    · rename_i h
      have h : P lo = false := by simpa using h
      rcases fst1_spec P d n (lo + 1) with ⟨k, k1, k2, k3, k4, k5⟩ | ⟨k1, k2⟩
      · refine Or.inl ⟨k, by omega, by omega, k3, k4, fun j h1 h2 => ?_⟩
        by_cases e : j = lo
        · rw [e]; exact h
        · exact k5 j (by omega) h2
      · refine Or.inr ⟨k1, fun j h1 h2 => ?_⟩
        by_cases e : j = lo
        · rw [e]; exact h
        · exact k2 j (by omega) (by omega)
theorem freeF_spec {G S : oV} (h1 : 0 ≤ G 1 0) (h8 : G 1 0 ≤ 8) : (0 ≤ freeF G S ∧ freeF G S < G 1 0 ∧ S 31 (freeF G S) = -2 ∧ ∀ j, 0 ≤ j → j < freeF G S → S 31 j ≠ -2) ∨ (freeF G S = 8 ∧ ∀ j, 0 ≤ j → j < G 1 0 → S 31 j ≠ -2) := by
  unfold freeF
  rcases fst1_spec (fun k => decide (S 31 k = -2)) 8 (G 1 0).toNat 0 with ⟨k, k1, k2, k3, k4, k5⟩ | ⟨k1, k2⟩
  · rw [k3]
    exact Or.inl ⟨k1, by omega, of_decide_eq_true k4, fun j j1 j2 => of_decide_eq_false (k5 j j1 j2)⟩
  · rw [k1]
    exact Or.inr ⟨rfl, fun j j1 j2 => of_decide_eq_false (k2 j j1 (by omega))⟩
/-- what stands where, and whose it is, fits together; x: a person left out -/
def WSx (G S : oV) (x : Int) : Prop := 0 ≤ S 35 0
  ∧ (∀ k, 0 ≤ k → k < 8 → S 31 k = -2 ∨ (0 ≤ S 31 k ∧ S 31 k < S 35 0 ∧ k < G 1 0 ∧ S 23 (S 31 k) ≠ x ∧ S 28 (S 23 (S 31 k)) = S 31 k ∧ S 29 (S 23 (S 31 k)) = k))
  ∧ (∀ p, 0 ≤ p → p < 7 → p ≠ x → (S 28 p = -2 ∧ S 29 p = 10 ∧ S 30 p = -2) ∨ (0 ≤ S 28 p ∧ S 28 p < S 35 0 ∧ S 23 (S 28 p) = p ∧ (S 29 p = 8 ∨ S 29 p = 9 ∨ (0 ≤ S 29 p ∧ S 29 p < G 1 0 ∧ S 31 (S 29 p) = S 28 p)) ∧ 0 ≤ S 30 p ∧ (S 30 p < G 1 0 ∨ S 30 p = 8)))
  ∧ (∀ b, 0 ≤ b → b < S 35 0 → 0 ≤ S 23 b ∧ S 23 b < 7)
theorem putsF_r {G S : oV} {p m : Int} {j : Nat} : putsF G S p j m = if j = 29 then (if m = p then freeF G S else S 29 m) else if j = 30 then (if m = p then freeF G S else S 30 m) else if j = 31 then (if freeF G S < 8 ∧ m = freeF G S then S 28 p else S 31 m) else S j m := by
  unfold putsF
  by_cases h : freeF G S < 8 <;> simp only [h, if_true, if_false, u1_r] <;> grind
theorem WS_puts {G S : oV} {p : Int} (h1 : 0 ≤ G 1 0) (h8 : G 1 0 ≤ 8) (hp : 0 ≤ p) (hp7 : p < 7) (hw : WSx G S p) (ho : 0 ≤ S 28 p) (ho2 : S 28 p < S 35 0) (ho3 : S 23 (S 28 p) = p) : WSx G (putsF G S p) (-1) := by
  have hf := freeF_spec (S := S) h1 h8
  have hf : (0 ≤ freeF G S ∧ freeF G S < G 1 0 ∧ S 31 (freeF G S) = -2) ∨ freeF G S = 8 := by
    rcases hf with ⟨e1, e2, e3, e4⟩ | ⟨e1, e2⟩
    · exact Or.inl ⟨e1, e2, e3⟩
    · exact Or.inr e1
  obtain ⟨a1, a2, a3, a4⟩ := hw
  unfold WSx
  simp only [putsF_r, Nat.reduceEqDiff, if_false, if_true]
  generalize freeF G S = f at hf
  refine ⟨a1, ?_, ?_, ?_⟩
  · intro k k0 k8
    have e1 := a2 k k0 k8
    have e2 := a4 (S 31 k)
    clear a2 a3 a4
    grind
  · intro q q0 q7 qx
    have e1 := a3 q q0 q7
    have e2 := a2 (S 29 q)
    clear a2 a3 a4
    grind
  · exact a4
def exchF (S : oV) (a b : Int) : oV :=
  let one := S 31 a
  let two := S 31 b
  let S1 := u1 (u1 S 31 a two) 31 b one
  let S2 := if one = -2 then S1 else u1 S1 29 (S1 23 one) b
  if two = -2 then S2 else u1 S2 29 (S2 23 two) a
def useF (G S : oV) (p : Int) : Int :=
  let b := if S 29 p < 8 ∧ kindF S p = 1 then S 31 (fst1 (fun k => decide (¬ S 31 k = -2) && decide (S 24 (S 31 k) = S 24 (S 28 p))) 8 (G 1 0).toNat 0) else S 28 p
  if S 29 p < 8 ∧ kindF S p = 2 ∧ S 30 p < 8 ∧ ¬ S 31 (S 30 p) = -2 then S 31 (S 30 p) else b
def brAtF (G S : oV) (p d : Int) : oV :=
  let b := useF G S p
  let S1 := u1 S 34 (7 * d + p) b
  let S2 := u1 S1 27 b (zAdd (S1 27 b) (G 14 p))
  if ¬ kindF S p = 3 ∨ 8 ≤ S 29 p then S2 else
    let S3 := u1 S2 31 (S2 29 p) (-2)
    let S4 := u1 S3 29 p (freeF G S3)
    u1 S4 31 (S4 29 p) b
def comeF (G : oV) (d p : Int) (S : oV) : oV := if comesB G p d = true then (if S 28 p = -2 then buysF G S p d else if 8 ≤ S 29 p then putsF G S p else S) else S
def thrF (S : oV) (p d : Int) : oV :=
  let S1 := u1 S 26 (S 28 p) d
  if S1 29 p < 8 then u1 S1 31 (S1 29 p) (-2) else S1
def renF (G : oV) (d p : Int) (S : oV) : oV := if hereB G p d = true ∧ S 18 (14 + p) ≤ d - S 25 (S 28 p) then buysF G (thrF S p d) p d else S
def mvF (G : oV) (d k : Int) (S : oV) : oV := if G 19 k = d then exchF S (G 20 k) (G 21 k) else S
def mvaF (d k : Int) (S : oV) : oV := if S 18 (22 + 3 * k) = d then exchF S (S 18 (22 + 3 * k + 1)) (S 18 (22 + 3 * k + 2)) else S
def moreF (d : Int) (S : oV) : oV := if S 36 0 = d then exchF S (S 37 0) (S 38 0) else S
def mornF (G : oV) (d : Int) (S : oV) : oV :=
  let S1 := it (comeF G d) (G 4 0).toNat S
  let S2 := it (renF G d) (G 4 0).toNat S1
  let S3 := it (mvF G d) (G 5 0).toNat S2
  it (mvaF d) (S3 18 21).toNat S3
def evF (G : oV) (d p : Int) (S : oV) : oV := let S1 := u1 S 34 (7 * d + p) (-2); if hereB G p d = true then brAtF G S1 p d else S1
def evenF (G : oV) (d : Int) (S : oV) : oV := it (evF G d) (G 4 0).toNat S
def noteF (d : Int) (S : oV) : oV := it (fun p T => u1 T 33 (7 * d + p) (T 29 p)) 7 (it (fun k T => u1 T 32 (8 * d + k) (T 31 k)) 8 S)
def goF (G : oV) (d p : Int) (S : oV) : oV := if goesB G p d = true ∧ G 18 p = 1 then u1 (if S 29 p < 8 then u1 S 31 (S 29 p) (-2) else S) 29 p 9 else S
def nightF (G : oV) (d : Int) (S : oV) : oV := it (goF G d) (G 4 0).toNat S
def dayF (G : oV) (d : Int) (S : oV) : oV := nightF G d (noteF d (evenF G d (moreF d (mornF G d S))))
def run0 (S : oV) : oV := it (fun p T => u1 (u1 (u1 T 28 p (-2)) 29 p 10) 30 p (-2)) 7 (it (fun k T => u1 T 31 k (-2)) 8 (s1 S 35 0))
def runF (G S : oV) : oV := it (dayF G) (G 0 0).toNat (run0 S)
/-- a glass as a good text tells it -/
def GW (G : oV) : Prop := (2 ≤ G 0 0 ∧ G 0 0 ≤ 30) ∧ (2 ≤ G 1 0 ∧ G 1 0 ≤ 8) ∧ (1 ≤ G 2 0 ∧ G 2 0 ≤ 6) ∧ (0 ≤ G 3 0 ∧ G 3 0 ≤ 100) ∧ (1 ≤ G 4 0 ∧ G 4 0 ≤ 7) ∧ (0 ≤ G 5 0 ∧ G 5 0 ≤ 10) ∧ (0 ≤ G 6 0 ∧ G 6 0 ≤ 6) ∧ (0 ≤ G 7 0 ∧ G 7 0 ≤ 8)
  ∧ (∀ p, 0 ≤ p → p < G 4 0 → (0 ≤ G 9 p ∧ G 9 p ≤ 3) ∧ (0 ≤ G 10 p ∧ G 10 p ≤ 2) ∧ (1 ≤ G 11 p ∧ G 11 p ≤ 6) ∧ (3 ≤ G 13 p ∧ G 13 p ≤ 30) ∧ (1 ≤ G 14 p ∧ G 14 p ≤ 9) ∧ (0 ≤ G 15 p ∧ G 15 p ≤ 3) ∧ (G 18 p = 0 ∨ G 18 p = 1))
  ∧ (∀ p i, 0 ≤ p → p < G 4 0 → 0 ≤ i → i < G 11 p → 0 ≤ G 12 (6 * p + i) ∧ G 12 (6 * p + i) < G 2 0)
  ∧ (∀ p i, 0 ≤ p → p < G 4 0 → 0 ≤ i → i < G 15 p → 0 ≤ G 16 (3 * p + i) ∧ G 16 (3 * p + i) ≤ G 17 (3 * p + i) ∧ G 17 (3 * p + i) < G 0 0)
  ∧ (∀ k, 0 ≤ k → k < G 5 0 → (0 ≤ G 19 k ∧ G 19 k < G 0 0) ∧ (0 ≤ G 20 k ∧ G 20 k < G 1 0) ∧ (0 ≤ G 21 k ∧ G 21 k < G 1 0) ∧ G 20 k ≠ G 21 k)
  ∧ (∀ s, 0 ≤ s → s < G 6 0 → 0 ≤ G 22 s ∧ G 22 s < G 0 0)
  ∧ (∀ s, 0 ≤ s → s < G 7 0 → (0 ≤ G 24 s ∧ G 24 s < G 4 0) ∧ (0 ≤ G 25 s ∧ G 25 s < G 0 0) ∧ (0 ≤ G 26 s ∧ G 26 s < G 1 0))
/-- what acts change, as it may be -/
def VW (G : oV) (v : Int → Int) : Prop := (∀ p, 0 ≤ p → p < G 4 0 → (0 ≤ v p ∧ v p ≤ 3) ∧ (0 ≤ v (7 + p) ∧ v (7 + p) ≤ 2) ∧ (3 ≤ v (14 + p) ∧ v (14 + p) ≤ 30)) ∧ (0 ≤ v 21 ∧ v 21 ≤ 12) ∧ (0 ≤ v 58 ∧ v 58 ≤ 65536)
  ∧ (∀ k, 0 ≤ k → k < v 21 → (0 ≤ v (22 + 3 * k) ∧ v (22 + 3 * k) < G 0 0) ∧ (0 ≤ v (22 + 3 * k + 1) ∧ v (22 + 3 * k + 1) < G 1 0) ∧ (0 ≤ v (22 + 3 * k + 2) ∧ v (22 + 3 * k + 2) < G 1 0) ∧ v (22 + 3 * k + 1) ≠ v (22 + 3 * k + 2))
/-- whose brushes there are, of which colours, since when -/
def BRx (G S : oV) (d : Int) : Prop := ∀ b, 0 ≤ b → b < S 35 0 → (0 ≤ S 23 b ∧ S 23 b < G 4 0) ∧ (0 ≤ S 25 b ∧ S 25 b ≤ d) ∧ ∃ i, 0 ≤ i ∧ i < G 11 (S 23 b) ∧ S 24 b = G 12 (6 * S 23 b + i)
def pot (S : oV) (p : Int) : Int := if S 28 p = -2 then 0 else S 25 (S 28 p) / 3 + 1
def potS (S : oV) : Int := pot S 0 + pot S 1 + pot S 2 + pot S 3 + pot S 4 + pot S 5 + pot S 6
def IV (G S : oV) (d : Int) : Prop := WSx G S (-1) ∧ BRx G S d ∧ S 35 0 ≤ potS S
theorem it_inv {α : Type} {f : Int → α → α} (P : Int → α → Prop) {n : Nat} {s : α} (h0 : P 0 s) (hs : ∀ (j : Int) (t : α), 0 ≤ j → j < n → P j t → P (j + 1) (f j t)) : P n (it f n s) := by
  have : ∀ m : Nat, m ≤ n → P m (it f m s) := by
    intro m
    induction m with
    | zero => intro _; exact h0
    | succ m ih =>
      intro hm
      have := hs m _ (by omega) (by omega) (ih (by omega))
      simpa [it] using this
  exact this n (Nat.le_refl n)
theorem chosF_in {G S : oV} {p : Int} (hl : 1 ≤ G 11 p) : ∃ i, 0 ≤ i ∧ i < G 11 p ∧ chosF G S p = G 12 (6 * p + i) := by
  unfold chosF
  split
  · exact ⟨0, by omega, by omega, by simp⟩
  · split
    · try dsimp only
      rcases fst1_spec (fun i => decide (inGl G S (G 12 (6 * p + i)) = 0)) (-1) (G 11 p).toNat 0 with ⟨k, k1, k2, k3, k4, k5⟩ | ⟨k1, k2⟩
      · rw [k3, if_neg (by omega)]
        exact ⟨k, by omega, by omega, rfl⟩
      · rw [k1, if_pos (by omega)]
        exact ⟨0, by omega, by omega, by simp⟩
    · refine it_inv (fun j best => ∃ i, 0 ≤ i ∧ i < G 11 p ∧ best = G 12 (6 * p + i)) ⟨0, by omega, by omega, by simp⟩ ?_
      intro j t j0 j1 ⟨i, i0, i1, e⟩
      try dsimp only
      split
      · exact ⟨j, by omega, by omega, rfl⟩
      · exact ⟨i, i0, i1, e⟩
/-- the fields ahead of a put when one is bought -/
def buy0 (G S : oV) (p d : Int) : oV :=
  let b := S 35 0
  let S2 := u1 (s1 S 35 (b + 1)) 23 b p
  u1 (u1 (u1 (u1 (u1 S2 24 b (chosF G S2 p)) 25 b d) 26 b (-2)) 27 b 0) 28 p b
theorem buysF_eq {G S : oV} {p d : Int} : buysF G S p d = putsF G (buy0 G S p d) p := rfl
def colB (G S : oV) (p : Int) : Int := chosF G (u1 (s1 S 35 (S 35 0 + 1)) 23 (S 35 0) p) p
theorem buy0_r {G S : oV} {p d m : Int} {j : Nat} : buy0 G S p d j m = if j = 35 then S 35 0 + 1 else if j = 23 then (if m = S 35 0 then p else S 23 m) else if j = 24 then (if m = S 35 0 then colB G S p else S 24 m) else if j = 25 then (if m = S 35 0 then d else S 25 m) else if j = 26 then (if m = S 35 0 then -2 else S 26 m) else if j = 27 then (if m = S 35 0 then 0 else S 27 m) else if j = 28 then (if m = p then S 35 0 else S 28 m) else S j m := by
  unfold buy0 colB
  simp only [u1_r, s1_r]
  grind
/-- ahead of buying: the person has none that stands -/
def Bu (G S : oV) (p d : Int) : Prop := WSx G S p ∧ BRx G S d ∧ S 35 0 ≤ potS S - pot S p + d / 3
theorem IV_buys {G S : oV} {p d : Int} (hG : GW G) (hp : 0 ≤ p) (hp7 : p < G 4 0) (hd : 0 ≤ d) (hb : Bu G S p d) : IV G (buysF G S p d) d := by
  obtain ⟨-, ⟨g1, g2⟩, -, -, ⟨g3, g4⟩, -, -, -, g5, -⟩ := hG
  obtain ⟨hw, hbr, hpt⟩ := hb
  have hl := (g5 p hp hp7).2.2.1.1
  have hcol : ∃ i, 0 ≤ i ∧ i < G 11 p ∧ colB G S p = G 12 (6 * p + i) := chosF_in hl
  have h35 : 0 ≤ S 35 0 := hw.1
  have hW0 : WSx G (buy0 G S p d) p := by
    obtain ⟨a1, a2, a3, a4⟩ := hw
    unfold WSx
    simp only [buy0_r, Nat.reduceEqDiff, if_false, if_true]
    refine ⟨by omega, ?_, ?_, ?_⟩
    · intro k k0 k8
      have e1 := a2 k k0 k8
      clear a2 a3 a4 g5
      grind
    · intro q q0 q7 qx
      have e1 := a3 q q0 q7 qx
      clear a2 a3 a4 g5
      grind
    · intro b b0 b1
      have e1 := a4 b b0
      clear a2 a3 a4 g5
      grind
  rw [buysF_eq]
  refine ⟨WS_puts (by omega) g2 hp (by omega) hW0 ?_ ?_ ?_, ?_, ?_⟩
  · simp only [buy0_r, Nat.reduceEqDiff, if_false, if_true]; omega
  · simp only [buy0_r, Nat.reduceEqDiff, if_false, if_true]; omega
  · simp only [buy0_r, Nat.reduceEqDiff, if_false, if_true]
  · intro b
    simp only [putsF_r, buy0_r, Nat.reduceEqDiff, if_false, if_true]
    intro b0 b1
    by_cases hbe : b = S 35 0
    · subst hbe
      simp only [if_true]
      exact ⟨⟨hp, hp7⟩, ⟨hd, Int.le_refl _⟩, hcol⟩
    · simp only [if_neg hbe]
      exact hbr b b0 (by omega)
  · have key : ∀ q, 0 ≤ q → q < 7 → pot (putsF G (buy0 G S p d) p) q = if q = p then d / 3 + 1 else pot S q := by
      intro q q0 q7
      have e1 := hw.2.2.1 q q0 q7
      unfold pot
      simp only [putsF_r, buy0_r, Nat.reduceEqDiff, if_false, if_true]
      clear hw hbr g5 hW0 hcol
      grind
    unfold potS
    rw [key 0, key 1, key 2, key 3, key 4, key 5, key 6] <;> try omega
    simp only [putsF_r, buy0_r, Nat.reduceEqDiff, if_false, if_true]
    unfold potS at hpt
    rcases (by omega : p = 0 ∨ p = 1 ∨ p = 2 ∨ p = 3 ∨ p = 4 ∨ p = 5 ∨ p = 6) with rfl | rfl | rfl | rfl | rfl | rfl | rfl <;> simp <;> omega
