/-! COUNTS OF AN EVENING: shared uses -/
def sm : Nat → (Int → Int) → Int
  | 0, _ => 0
  | n + 1, f => sm n f + f n
theorem sm_s {j : Int} {f : Int → Int} (hj : 0 ≤ j) : sm (j + 1).toNat f = sm j.toNat f + f j := by
  have e : (j + 1).toNat = j.toNat + 1 := by omega
  rw [e]
  simp only [sm]
  have e2 : ((j.toNat : Nat) : Int) = j := by omega
  rw [e2]
theorem sm_congr {f g : Int → Int} : ∀ {n : Nat}, (∀ j : Int, 0 ≤ j → j < n → f j = g j) → sm n f = sm n g
  | 0, _ => rfl
  | n + 1, h => by
    unfold sm
    rw [h n (by omega) (by omega), sm_congr fun j h1 h2 => h j h1 (by omega)]
theorem sm_le {f : Int → Int} {m : Int} : ∀ {n : Nat}, (∀ j : Int, 0 ≤ j → j < n → 0 ≤ f j ∧ f j ≤ m) → 0 ≤ sm n f ∧ sm n f ≤ n * m
  | 0, _ => by simp [sm]
  | n + 1, h => by
    have h1 := sm_le (f := f) (m := m) (n := n) fun j j0 j1 => h j j0 (by omega)
    have h2 := h n (by omega) (by omega)
    simp only [sm]
    have e : ((n + 1 : Nat) : Int) * m = n * m + m := by
      rw [Int.natCast_succ, Int.add_mul, Int.one_mul]
    rw [e]
    omega
/-- a use of another one's, by the course -/
def shK (K : oV) (p : Int) : Bool := decide (0 ≤ K 6 p) && decide (¬ K 9 (K 6 p) = p)
theorem shK_iff {K : oV} {p : Int} : shK K p = true ↔ (0 ≤ K 6 p ∧ ¬ K 9 (K 6 p) = p) := by simp [shK]
theorem nQ1_2 {K D : oV} {d p x : Int} : (nQ1 K d p (D, x)).2 = (if shK K p = true then zAdd x 1 else x) ∧ (∀ q, (nQ1 K d p (D, x)).1 8 q = if shK K p = true ∧ q = p then zAdd (D 8 p) 1 else D 8 q) ∧ (∀ q, (nQ1 K d p (D, x)).1 7 q = if shK K p = true ∧ q = K 9 (K 6 p) then zAdd (D 7 (K 9 (K 6 p))) 1 else D 7 q) ∧ ((nQ1 K d p (D, x)).1 12 0 = if K 4 p = 8 ∧ D 12 0 < 0 then d else D 12 0) := by
  unfold nQ1
  dsimp only
  have b7 : ∀ q, u1 (u1 D 2 (7 * d + p) (K 4 p)) 3 (7 * d + p) (K 6 p) 7 q = D 7 q := fun q => by rw [u1_o (by decide), u1_o (by decide)]
  have b8 : ∀ q, u1 (u1 D 2 (7 * d + p) (K 4 p)) 3 (7 * d + p) (K 6 p) 8 q = D 8 q := fun q => by rw [u1_o (by decide), u1_o (by decide)]
  have b12 : u1 (u1 D 2 (7 * d + p) (K 4 p)) 3 (7 * d + p) (K 6 p) 12 0 = D 12 0 := by rw [u1_o (by decide), u1_o (by decide)]
  generalize u1 (u1 D 2 (7 * d + p) (K 4 p)) 3 (7 * d + p) (K 6 p) = D1 at *
  by_cases hs : shK K p = true
  · have hs' := shK_iff.mp hs
    simp only [if_pos hs', if_pos hs, hs, true_and]
    have c12 : u1 (u1 D1 8 p (zAdd (D1 8 p) 1)) 7 (K 9 (K 6 p)) (zAdd (D1 7 (K 9 (K 6 p))) 1) 12 0 = D 12 0 := by rw [u1_o (by decide), u1_o (by decide)]; exact b12
    rw [c12]
    refine ⟨by simp, fun q => ?_, fun q => ?_, ?_⟩
    · split
      · rw [s1_o (by decide), u1_o (by decide)]
        simp only [u1_r, if_true, b8]
      · rw [u1_o (by decide)]
        simp only [u1_r, if_true, b8]
    · split
      · rw [s1_o (by decide)]
        simp only [u1_r, if_true, b7, Nat.reduceEqDiff, if_false]
      · simp only [u1_r, if_true, b7, Nat.reduceEqDiff, if_false]
    · by_cases h4 : K 4 p = 8 ∧ D 12 0 < 0
      · rw [if_pos h4, if_pos h4]
        simp only [s1_r, if_true]
      · rw [if_neg h4, if_neg h4]
        exact c12
  · have hs' : ¬ (0 ≤ K 6 p ∧ ¬ K 9 (K 6 p) = p) := fun q => hs (shK_iff.mpr q)
    simp only [if_neg hs', hs, false_and, if_false, b12]
    refine ⟨by simp, fun q => ?_, fun q => ?_, ?_⟩
    · split
      · rw [s1_o (by decide)]; exact b8 q
      · exact b8 q
    · split
      · rw [s1_o (by decide)]; exact b7 q
      · exact b7 q
    · by_cases h4 : K 4 p = 8 ∧ D 12 0 < 0
      · rw [if_pos h4, if_pos h4]
        simp only [s1_r, if_true]
      · rw [if_neg h4, if_neg h4]
        exact b12
/-- what the people's notes of an evening come to -/
theorem nQl_2 {G K D : oV} {d : Int} (h1 : 0 ≤ G 4 0) (h7 : G 4 0 ≤ 7) (hd : 0 ≤ d) (b8 : ∀ q, 0 ≤ D 8 q ∧ D 8 q ≤ 1000) (b7 : ∀ q, 0 ≤ D 7 q ∧ D 7 q ≤ 100000) : (nQl G K d D).2 = cnt (G 4 0).toNat (shK K) ∧ (∀ q, (nQl G K d D).1 8 q = D 8 q + (if shK K q = true ∧ 0 ≤ q ∧ q < G 4 0 then 1 else 0)) ∧ (∀ q, (nQl G K d D).1 7 q = D 7 q + cnt (G 4 0).toNat (fun p => shK K p && decide (K 9 (K 6 p) = q))) ∧ ((nQl G K d D).1 12 0 = if D 12 0 < 0 ∧ anyB (G 4 0).toNat (fun p => decide (K 4 p = 8)) = true then d else D 12 0) := by
  have key := it_inv (f := nQ1 K d) (n := (G 4 0).toNat) (s := (D, 0)) (fun j X => X.2 = cnt j.toNat (shK K) ∧ (∀ q, X.1 8 q = D 8 q + (if shK K q = true ∧ 0 ≤ q ∧ q < j then 1 else 0)) ∧ (∀ q, X.1 7 q = D 7 q + cnt j.toNat (fun p => shK K p && decide (K 9 (K 6 p) = q))) ∧ (X.1 12 0 = if D 12 0 < 0 ∧ anyB j.toNat (fun p => decide (K 4 p = 8)) = true then d else D 12 0)) ?_ ?_
  · have e : (((G 4 0).toNat : Nat) : Int) = G 4 0 := by omega
    rw [e] at key
    exact key
  · refine ⟨rfl, fun q => ?_, fun q => ?_, ?_⟩
    · rw [if_neg (by omega)]; dsimp only; omega
    · show D 7 q = D 7 q + 0
      omega
    · rw [if_neg (by simp [anyB])]
  · rintro j ⟨T, x⟩ j0 j1 ⟨k1, k2, k3, k4⟩
    obtain ⟨q1, q2, q3, q4⟩ := nQ1_2 (K := K) (D := T) (d := d) (p := j) (x := x)
    have hc := cnt_le (n := j.toNat) (P := shK K)
    dsimp only at k1 k2 k3 k4
    refine ⟨?_, fun q => ?_, fun q => ?_, ?_⟩
    · rw [q1, cnt_s j0, k1]
      split
      · rw [zAdd_id (by omega) (by omega)]
      · omega
    · rw [q2, k2 j, k2 q]
      have := b8 j
      have := b8 q
      by_cases hs : shK K j = true
      · by_cases e : q = j
        · subst e
          rw [if_pos ⟨hs, rfl⟩, if_neg (by omega), if_pos ⟨hs, by omega, by omega⟩, zAdd_id (by omega) (by omega)]
          omega
        · rw [if_neg (fun z => e z.2)]
          by_cases hq : shK K q = true ∧ 0 ≤ q ∧ q < j
          · rw [if_pos hq, if_pos ⟨hq.1, hq.2.1, by omega⟩]
          · rw [if_neg hq, if_neg (fun z => hq ⟨z.1, z.2.1, by omega⟩)]
      · rw [if_neg (fun z => hs z.1)]
        by_cases hq : shK K q = true ∧ 0 ≤ q ∧ q < j
        · rw [if_pos hq, if_pos ⟨hq.1, hq.2.1, by omega⟩]
        · rw [if_neg hq, if_neg (fun z => hq ⟨z.1, z.2.1, by
            by_cases e : q = j
            · subst e; exact absurd z.1 hs
            · omega⟩)]
    · rw [q3, k3 q, k3 (K 9 (K 6 j)), cnt_s j0]
      have c1 := cnt_le (n := j.toNat) (P := fun p => shK K p && decide (K 9 (K 6 p) = K 9 (K 6 j)))
      have := b7 (K 9 (K 6 j))
      by_cases hs : shK K j = true
      · by_cases e : q = K 9 (K 6 j)
        · subst e
          rw [if_pos ⟨hs, rfl⟩, zAdd_id (by omega) (by omega)]
          simp [hs]
          omega
        · rw [if_neg (fun z => e z.2)]
          simp [hs, Ne.symm e]
      · rw [if_neg (fun z => hs z.1)]
        simp [hs]
    · rw [q4]
      have e : (j + 1).toNat = j.toNat + 1 := by omega
      have e2 : ((j.toNat : Nat) : Int) = j := by omega
      rw [e]
      simp only [anyB, e2, Bool.or_eq_true, decide_eq_true_eq]
      by_cases h12 : D 12 0 < 0
      · by_cases ha : anyB j.toNat (fun p => decide (K 4 p = 8)) = true
        · rw [if_pos ⟨h12, ha⟩] at k4
          rw [if_neg (show ¬ (K 4 j = 8 ∧ T 12 0 < 0) by omega), k4]
          exact (if_pos ⟨h12, Or.inl ha⟩).symm
        · rw [if_neg (fun z => ha z.2)] at k4
          by_cases h4 : K 4 j = 8
          · rw [if_pos (show K 4 j = 8 ∧ T 12 0 < 0 from ⟨h4, by omega⟩)]
            exact (if_pos ⟨h12, Or.inr h4⟩).symm
          · rw [if_neg (show ¬ (K 4 j = 8 ∧ T 12 0 < 0) from fun z => h4 z.1), k4]
            exact (if_neg (fun z => z.2.elim ha h4)).symm
      · rw [if_neg (fun z => h12 z.1)] at k4
        rw [if_neg (show ¬ (K 4 j = 8 ∧ T 12 0 < 0) by omega), k4]
        exact (if_neg (fun z => h12 z.1)).symm
