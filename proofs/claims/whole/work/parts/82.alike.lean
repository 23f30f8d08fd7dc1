/-! COUNTS OF AN EVENING: alike, most of one colour -/
/-- how many of a colour stand in the first j places -/
def tlK (K : oV) (j : Nat) (t : Int) : Int := cnt j (fun k => decide (0 ≤ K 2 k) && decide (K 10 (K 2 k) = t))
theorem tlK_s {K : oV} {j t : Int} (hj : 0 ≤ j) : tlK K (j + 1).toNat t = tlK K j.toNat t + (if 0 ≤ K 2 j ∧ K 10 (K 2 j) = t then 1 else 0) := by
  unfold tlK
  rw [cnt_s hj]
  simp
theorem tlK_le {K : oV} {j : Nat} {t : Int} : 0 ≤ tlK K j t ∧ tlK K j t ≤ j := cnt_le
def alK (K : oV) (j : Nat) : Int := sm j (fun k => if 0 ≤ K 2 k then tlK K k.toNat (K 10 (K 2 k)) else 0)
theorem alK_le {K : oV} {j : Nat} (hj : j ≤ 8) : 0 ≤ alK K j ∧ alK K j ≤ 64 := by
  have := sm_le (f := fun k => if 0 ≤ K 2 k then tlK K k.toNat (K 10 (K 2 k)) else 0) (m := 8) (n := j) fun k k0 k1 => by
    have := tlK_le (K := K) (j := k.toNat) (t := K 10 (K 2 k))
    split <;> omega
  unfold alK
  omega
theorem nPl_2 {G K D : oV} {d : Int} (h1 : 0 ≤ G 1 0) (h8 : G 1 0 ≤ 8) (h11 : 0 ≤ D 11 0) : (nPl G K d D).2 = alK K (G 1 0).toNat ∧ (D 11 0 ≤ (nPl G K d D).1 11 0) ∧ (∀ t, tlK K (G 1 0).toNat t ≤ (nPl G K d D).1 11 0) ∧ ((nPl G K d D).1 11 0 = D 11 0 ∨ ∃ t, tlK K (G 1 0).toNat t = (nPl G K d D).1 11 0) := by
  have key := it_inv (f := nP1 K d) (n := (G 1 0).toNat) (s := (sF D 4 (fun _ => 0), 0)) (fun j X => X.2 = alK K j.toNat ∧ (D 11 0 ≤ X.1 11 0) ∧ (∀ t, tlK K j.toNat t ≤ X.1 11 0) ∧ (X.1 11 0 = D 11 0 ∨ ∃ t, tlK K j.toNat t = X.1 11 0) ∧ ∀ t, X.1 4 t = tlK K j.toNat t) ?_ ?_
  · have e : (((G 1 0).toNat : Nat) : Int) = G 1 0 := by omega
    rw [e] at key
    exact ⟨key.1, key.2.1, key.2.2.1, key.2.2.2.1⟩
  · have e : sF D 4 (fun _ => 0) 11 = D 11 := sF_ne (by decide)
    dsimp only
    rw [e]
    refine ⟨rfl, Int.le_refl _, fun t => ?_, Or.inl rfl, fun t => ?_⟩
    · show (0 : Int) ≤ D 11 0
      exact h11
    · rw [sF_at]; rfl
  · rintro j ⟨T, x⟩ j0 j1 ⟨k1, k2, k3, k4, k5⟩
    dsimp only at k1 k2 k3 k4 k5
    have hal := alK_le (K := K) (j := j.toNat) (by omega)
    have als : alK K (j + 1).toNat = alK K j.toNat + (if 0 ≤ K 2 j then tlK K j.toNat (K 10 (K 2 j)) else 0) := sm_s j0
    unfold nP1
    by_cases hb : 0 ≤ K 2 j
    · rw [if_pos hb]
      dsimp only
      rw [if_pos hb] at als
      have htl := tlK_le (K := K) (j := j.toNat) (t := K 10 (K 2 j))
      have hx : zAdd (T 4 (K 10 (K 2 j))) 1 = tlK K j.toNat (K 10 (K 2 j)) + 1 := by rw [k5, zAdd_id (by omega) (by omega)]
      have e11 : ∀ y z w, s1 (u1 (u1 T 1 (8 * d + j) (K 2 j)) 4 y z) 11 w 11 0 = w := fun y z w => by simp only [s1_r, if_true]
      rw [e11, hx]
      have hmx : zMax (T 11 0) (tlK K j.toNat (K 10 (K 2 j)) + 1) = if T 11 0 < tlK K j.toNat (K 10 (K 2 j)) + 1 then tlK K j.toNat (K 10 (K 2 j)) + 1 else T 11 0 := rfl
      have hself : tlK K (j + 1).toNat (K 10 (K 2 j)) = tlK K j.toNat (K 10 (K 2 j)) + 1 := by rw [tlK_s j0, if_pos ⟨hb, rfl⟩]
      have hoth : ∀ t, ¬ K 10 (K 2 j) = t → tlK K (j + 1).toNat t = tlK K j.toNat t := fun t ht => by rw [tlK_s j0, if_neg (fun z => ht z.2)]; omega
      refine ⟨?_, ?_, fun t => ?_, ?_, fun t => ?_⟩
      · clear k4 hmx
        rw [k1, k5, als, zAdd_id (by omega) (by omega)]
      · rw [hmx]; split <;> omega
      · have k3t := k3 t
        by_cases ht : K 10 (K 2 j) = t
        · rw [← ht, hself, hmx]; split <;> omega
        · rw [hoth t ht, hmx]; split <;> omega
      · rw [hmx]
        by_cases hc : T 11 0 < tlK K j.toNat (K 10 (K 2 j)) + 1
        · rw [if_pos hc]
          exact Or.inr ⟨K 10 (K 2 j), hself⟩
        · rw [if_neg hc]
          rcases k4 with k4 | ⟨t, k4⟩
          · exact Or.inl k4
          · by_cases ht : K 10 (K 2 j) = t
            · subst ht; omega
            · exact Or.inr ⟨t, by rw [hoth t ht]; exact k4⟩
      · rw [s1_o (by decide)]
        simp only [u1_r, if_true, Nat.reduceEqDiff, if_false]
        by_cases ht : t = K 10 (K 2 j)
        · rw [if_pos ht, ht, hself]
        · rw [if_neg ht, k5, hoth t (Ne.symm ht)]
    · rw [if_neg hb]
      dsimp only
      rw [if_neg hb] at als
      have hoth : ∀ t, tlK K (j + 1).toNat t = tlK K j.toNat t := fun t => by rw [tlK_s j0, if_neg (fun z => hb z.1)]; omega
      have e11 : u1 T 1 (8 * d + j) (K 2 j) 11 = T 11 := u1_o (by decide)
      have e4 : u1 T 1 (8 * d + j) (K 2 j) 4 = T 4 := u1_o (by decide)
      rw [e11, e4]
      refine ⟨by rw [k1, als]; omega, k2, fun t => by rw [hoth]; exact k3 t, ?_, fun t => by rw [k5, hoth]⟩
      rcases k4 with k4 | ⟨t, k4⟩
      · exact Or.inl k4
      · exact Or.inr ⟨t, by rw [hoth]; exact k4⟩
