/-! THE CLASS'S COURSE OF DAYS: its glass, ways and course as numbers; what its methods do, as functions of K (the course's fields), G (the glass, as the reference has it), v (kinds, habits, keeps, moves) -/
def bset : Nat → (Int → Bool) → Int
  | 0, _ => 0
  | n + 1, P => bset n P + (if P n = true then 2 ^ n else 0)
theorem bset_dec : ∀ b0 b1 b2 b3 b4 b5 b6 : Bool, ∀ p ∈ List.range 7, decide (¬ zAnd ((((((((0 : Int) + (if b0 = true then 1 else 0)) + (if b1 = true then 2 else 0)) + (if b2 = true then 4 else 0)) + (if b3 = true then 8 else 0)) + (if b4 = true then 16 else 0)) + (if b5 = true then 32 else 0)) + (if b6 = true then 64 else 0)) (zShl 1 p) = 0) = [b0, b1, b2, b3, b4, b5, b6].getD p false := by decide +kernel
theorem bset_bit {P : Int → Bool} {p : Int} (hp : 0 ≤ p) (hp7 : p < 7) : (¬ zAnd (bset 7 P) (zShl 1 p) = 0) ↔ P p = true := by
  have h := bset_dec (P 0) (P 1) (P 2) (P 3) (P 4) (P 5) (P 6) p.toNat (List.mem_range.mpr (by omega))
  have e : ((p.toNat : Nat) : Int) = p := by omega
  rw [e] at h
  have e2 : bset 7 P = (((((((0 : Int) + (if P 0 = true then 1 else 0)) + (if P 1 = true then 2 else 0)) + (if P 2 = true then 4 else 0)) + (if P 3 = true then 8 else 0)) + (if P 4 = true then 16 else 0)) + (if P 5 = true then 32 else 0)) + (if P 6 = true then 64 else 0) := rfl
  rw [e2, ← decide_eq_true_iff (p := ¬ zAnd _ _ = 0), h]
  rcases (by omega : p = 0 ∨ p = 1 ∨ p = 2 ∨ p = 3 ∨ p = 4 ∨ p = 5 ∨ p = 6) with rfl | rfl | rfl | rfl | rfl | rfl | rfl <;> exact Iff.rfl
/-- the class's glass at g is G -/
def GR (V : Mem) (g : Nat) (G : oV) : Prop := (V g 0 0 = G 0 0 ∧ V g 1 0 = G 1 0 ∧ V g 2 0 = G 2 0 ∧ V g 3 0 = G 3 0 ∧ V g 4 0 = G 4 0 ∧ V g 6 0 = G 5 0 ∧ V g 10 0 = G 6 0 ∧ V g 13 0 = G 7 0)
  ∧ (∀ k, 0 ≤ k → k < G 5 0 → V g 7 k = G 19 k ∧ V g 8 k = G 20 k ∧ V g 9 k = G 21 k)
  ∧ (∀ s, 0 ≤ s → s < G 6 0 → V g 11 s = G 22 s ∧ ∀ k, 0 ≤ k → k < G 1 0 → V g 12 (8 * s + k) = G 23 (8 * s + k))
  ∧ (∀ s, 0 ≤ s → s < G 7 0 → V g 14 s = G 24 s ∧ V g 15 s = G 25 s ∧ V g 16 s = G 26 s)
  ∧ (∀ p : Int, 0 ≤ p → p < G 4 0 → V (g + 13 + 4 * p.toNat) 2 0 = G 9 p ∧ V (g + 13 + 4 * p.toNat) 3 0 = G 10 p ∧ V (g + 13 + 4 * p.toNat) 4 0 = G 11 p ∧ V (g + 13 + 4 * p.toNat) 6 0 = G 13 p ∧ V (g + 13 + 4 * p.toNat) 7 0 = G 14 p ∧ V (g + 13 + 4 * p.toNat) 8 0 = G 18 p ∧ V (g + 13 + 4 * p.toNat) 9 0 = G 15 p)
  ∧ (∀ p i : Int, 0 ≤ p → p < G 4 0 → 0 ≤ i → i < G 11 p → V (g + 13 + 4 * p.toNat) 5 i = G 12 (6 * p + i))
  ∧ (∀ p i : Int, 0 ≤ p → p < G 4 0 → 0 ≤ i → i < G 15 p → V (g + 13 + 4 * p.toNat) 10 i = G 16 (3 * p + i) ∧ V (g + 13 + 4 * p.toNat) 11 i = G 17 (3 * p + i))
  ∧ (∀ d, 0 ≤ d → d < G 0 0 → V g 17 d = bset 7 (fun p => decide (p < G 4 0) && hereB G p d) ∧ V g 18 d = bset 7 (fun p => decide (p < G 4 0) && comesB G p d) ∧ V g 19 d = bset 7 (fun p => decide (p < G 4 0) && goesB G p d))
/-- the ways at w are v -/
def WR (G : oV) (V : Mem) (w : Nat) (v : Int → Int) : Prop := (∀ p, 0 ≤ p → p < G 4 0 → V w 0 p = v p ∧ V w 1 p = v (7 + p) ∧ V w 2 p = v (14 + p)) ∧ V w 3 0 = v 21 ∧ (∀ k, 0 ≤ k → k < v 21 → V w 4 k = v (22 + 3 * k) ∧ V w 5 k = v (22 + 3 * k + 1) ∧ V w 6 k = v (22 + 3 * k + 2)) ∧ V w 7 0 = v 58
/-- a course at a, of the glass at g, by the ways at w -/
def EN (c : cT) (V : Mem) (a g w : Nat) (G : oV) (v : Int → Int) : Prop := (mcl c.1 a = some 0 ∧ mcl c.1 g = some 4 ∧ mcl c.1 w = some 10) ∧ (∀ p : Nat, p < 7 → mcl c.1 (g + 13 + 4 * p) = some 8) ∧ V a 0 0 = (g : Int) ∧ V a 1 0 = (w : Int) ∧ GR V g G ∧ WR G V w v
theorem mcl_ne {c a b i j : Nat} (h1 : mcl c a = some i) (h2 : mcl c b = some j) (h : i ≠ j) : a ≠ b := fun e => by
  rw [e, h2] at h1
  cases h1
  exact h rfl
theorem GR_ext {V V' : Mem} {g : Nat} {G : oV} (h : GR V g G) (hg : V' g = V g) (hp : ∀ p : Nat, p < 7 → V' (g + 13 + 4 * p) = V (g + 13 + 4 * p)) (h7 : G 4 0 ≤ 7) : GR V' g G := by
  obtain ⟨h1, h2, h3, h4, h5, h6, h8, h9⟩ := h
  unfold GR
  rw [hg]
  refine ⟨h1, h2, h3, h4, fun p p0 p1 => ?_, fun p i p0 p1 => ?_, fun p i p0 p1 => ?_, h9⟩
  · rw [hp p.toNat (by omega)]; exact h5 p p0 p1
  · rw [hp p.toNat (by omega)]; exact h6 p i p0 p1
  · rw [hp p.toNat (by omega)]; exact h8 p i p0 p1
theorem WR_ext {V V' : Mem} {w : Nat} {G : oV} {v : Int → Int} (h : WR G V w v) (hg : V' w = V w) : WR G V' w v := by
  unfold WR
  rw [hg]
  exact h
theorem EN_sO {c : cT} {V : Mem} {a g w : Nat} {G K : oV} {v : Int → Int} (h : EN c V a g w G v) (h7 : G 4 0 ≤ 7) (k0 : K 0 0 = V a 0 0) (k1 : K 1 0 = V a 1 0) : EN c (sO V a K) a g w G v := by
  obtain ⟨⟨a1, a2, a3⟩, a4, a5, a6, a7, a8⟩ := h
  refine ⟨⟨a1, a2, a3⟩, a4, by rw [sO_at, k0]; exact a5, by rw [sO_at, k1]; exact a6, GR_ext a7 (sO_ne (mcl_ne a2 a1 (by decide))) (fun p hp => sO_ne (mcl_ne (a4 p hp) a1 (by decide))) h7, WR_ext a8 (sO_ne (mcl_ne a3 a1 (by decide)))⟩
section EB
variable {c : cT} {V : Mem} {a g w : Nat} {G : oV} {v : Int → Int}
theorem EN_here {p d : Int} (h : EN c V a g w G v) (hp : 0 ≤ p) (hp7 : p < 7) (hpp : p < G 4 0) (hd : 0 ≤ d) (hd2 : d < G 0 0) : (¬ zAnd (V g 17 d) (zShl 1 p) = 0) ↔ hereB G p d = true := by
  rw [(h.2.2.2.2.1.2.2.2.2.2.2.2 d hd hd2).1, bset_bit hp hp7]
  simp [hpp]
theorem EN_comes {p d : Int} (h : EN c V a g w G v) (hp : 0 ≤ p) (hp7 : p < 7) (hpp : p < G 4 0) (hd : 0 ≤ d) (hd2 : d < G 0 0) : (¬ zAnd (V g 18 d) (zShl 1 p) = 0) ↔ comesB G p d = true := by
  rw [(h.2.2.2.2.1.2.2.2.2.2.2.2 d hd hd2).2.1, bset_bit hp hp7]
  simp [hpp]
theorem EN_goes {p d : Int} (h : EN c V a g w G v) (hp : 0 ≤ p) (hp7 : p < 7) (hpp : p < G 4 0) (hd : 0 ≤ d) (hd2 : d < G 0 0) : (¬ zAnd (V g 19 d) (zShl 1 p) = 0) ↔ goesB G p d = true := by
  rw [(h.2.2.2.2.1.2.2.2.2.2.2.2 d hd hd2).2.2, bset_bit hp hp7]
  simp [hpp]
end EB
def kFree (G K : oV) : Int := fst1 (fun k => decide (K 2 k < 0)) 8 (G 1 0).toNat 0
def kStand (G K : oV) (p : Int) : oV := if kFree G K < 8 then u1 (u1 (u1 K 4 p 8) 2 (kFree G K) (K 3 p)) 4 p (kFree G K) else u1 K 4 p 8
def kLift (K : oV) (p : Int) : oV := if 0 ≤ K 4 p ∧ K 4 p < 8 then u1 K 2 (K 4 p) (-2) else K
def kTal (G K : oV) : Int → Int := fun x => cnt (G 1 0).toNat (fun k => decide (0 ≤ K 2 k) && decide (K 10 (K 2 k) = x))
def kPick (G : oV) (v : Int → Int) (K : oV) (p : Int) : Int := if v (7 + p) = 0 then G 12 (6 * p) else if v (7 + p) = 1 then
    (if fst1 (fun i => decide (kTal G K (G 12 (6 * p + i)) = 0)) (-1) (G 11 p).toNat 0 < 0 then G 12 (6 * p) else G 12 (6 * p + fst1 (fun i => decide (kTal G K (G 12 (6 * p + i)) = 0)) (-1) (G 11 p).toNat 0))
  else it (fun i best => if kTal G K (G 12 (6 * p + i)) < kTal G K best then G 12 (6 * p + i) else best) (G 11 p).toNat (G 12 (6 * p))
def kPickK (G : oV) (v : Int → Int) (K : oV) (p : Int) : oV := if v (7 + p) = 0 then K else sF K 7 (kTal G K)
def kBuy (G : oV) (v : Int → Int) (K : oV) (p d : Int) : oV := if 70 ≤ K 8 0 then K else
  let b := K 8 0
  let K2 := u1 (s1 K 8 (b + 1)) 9 b p
  let K3 := u1 (u1 (u1 (u1 (u1 (kPickK G v K2 p) 10 b (kPick G v K2 p)) 11 b d) 12 b (-2)) 13 b 0) 3 p b
  let K4 := kStand G K3 p
  u1 K4 5 p (K4 4 p)
def kExch (K : oV) (a b : Int) : oV :=
  let K1 := u1 (u1 K 2 a (K 2 b)) 2 b (K 2 a)
  let K2 := if 0 ≤ K1 2 a then u1 K1 4 (K1 9 (K1 2 a)) a else K1
  if 0 ≤ K2 2 b then u1 K2 4 (K2 9 (K2 2 b)) b else K2
def kTint (K : oV) (k : Int) : Int := if K 2 k < 0 then -2 else K 10 (K 2 k)
def kChos (G : oV) (v : Int → Int) (K : oV) (p : Int) : Int := if K 3 p < 0 ∨ 8 ≤ K 4 p then K 3 p else
  if v p = 1 ∧ 0 ≤ fst1 (fun k => decide (kTint K k = K 10 (K 3 p))) (-1) (G 1 0).toNat 0 then K 2 (fst1 (fun k => decide (kTint K k = K 10 (K 3 p))) (-1) (G 1 0).toNat 0)
  else if v p = 2 ∧ K 5 p < 8 ∧ 0 ≤ K 2 (K 5 p) then K 2 (K 5 p) else K 3 p
def kIn (G : oV) (v : Int → Int) (K : oV) (p d : Int) : oV := if K 3 p < 0 then kBuy G v K p d else if 8 ≤ K 4 p then u1 (kStand G K p) 5 p (kStand G K p 4 p) else K
def kRew (G : oV) (v : Int → Int) (K : oV) (p d : Int) : oV := if 0 ≤ K 3 p ∧ v (14 + p) ≤ d - K 11 (K 3 p) then kBuy G v (u1 (kLift (u1 K 12 (K 3 p) d) p) 3 p (-2)) p d else K
def kCome (G : oV) (v : Int → Int) (d p : Int) (K : oV) : oV := if comesB G p d = true then kIn G v K p d else K
def kRen (G : oV) (v : Int → Int) (d p : Int) (K : oV) : oV := if hereB G p d = true then kRew G v K p d else K
def kMv (G : oV) (d k : Int) (K : oV) : oV := if G 19 k = d then kExch K (G 20 k) (G 21 k) else K
def kMva (v : Int → Int) (d k : Int) (K : oV) : oV := if v (22 + 3 * k) = d then kExch K (v (22 + 3 * k + 1)) (v (22 + 3 * k + 2)) else K
def kMorn (G : oV) (v : Int → Int) (d : Int) (K : oV) : oV := it (kMva v d) (v 21).toNat (it (kMv G d) (G 5 0).toNat (it (kRen G v d) (G 4 0).toNat (it (kCome G v d) (G 4 0).toNat K)))
def kEv (G : oV) (v : Int → Int) (d p : Int) (K : oV) : oV :=
  let u := if hereB G p d = true then kChos G v K p else -2
  let K1 := u1 K 6 p u
  if 0 ≤ u then
    let K2 := u1 K1 13 u (zAdd (K1 13 u) (G 14 p))
    if v p = 3 ∧ K2 4 p < 8 then kStand G (u1 K2 2 (K2 4 p) (-2)) p else K2
  else K1
def kEven (G : oV) (v : Int → Int) (d : Int) (K : oV) : oV := it (kEv G v d) (G 4 0).toNat K
def kGo (G : oV) (d p : Int) (K : oV) : oV := if goesB G p d = true ∧ G 18 p = 1 then u1 (kLift K p) 4 p 9 else K
def kNight (G : oV) (d : Int) (K : oV) : oV := it (kGo G d) (G 4 0).toNat K
def kBeg (K : oV) (g w : Nat) : oV := sF (sF (sF (sF (sF (s1 (s1 (s1 K 0 g) 1 w) 8 0) 2 (fun _ => -2)) 3 (fun _ => -2)) 4 (fun _ => -2)) 5 (fun _ => 8)) 6 (fun _ => -2)
/-- the class's course K and the reference's fields S say the same -/
def CK (K S : oV) : Prop := K 8 0 = S 35 0 ∧ (∀ k, 0 ≤ k → k < 8 → K 2 k = S 31 k) ∧ (∀ p, 0 ≤ p → p < 7 → K 3 p = S 28 p ∧ K 4 p = (if S 29 p = 10 then -2 else S 29 p) ∧ K 5 p = (if S 30 p = -2 then 8 else S 30 p)) ∧ (∀ b, 0 ≤ b → b < S 35 0 → K 9 b = S 23 b ∧ K 10 b = S 24 b ∧ K 11 b = S 25 b)
/-- and of how worn they are, when they were thrown away -/
def CW (K S : oV) : Prop := ∀ b, 0 ≤ b → b < S 35 0 → K 12 b = S 26 b ∧ K 13 b = S 27 b
/-- the ways that the reference's fields say -/
def veF (S : oV) : Int → Int := fun i => if 0 ≤ i ∧ i < 7 then kindF S i else if 7 ≤ i ∧ i < 14 then habitF S (i - 7) else S 18 i
