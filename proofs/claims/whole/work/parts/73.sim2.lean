/-! THE CLASS'S COURSE AND THE REFERENCE'S RUN GO TOGETHER: evenings, nights; how worn, when thrown away -/
theorem kChos_eq {G K S : oV} {v : Int → Int} {p d : Int} (hG : GW G) (h : CK K S) (hi : IV G S d) (hv : VE G v S) (hp : 0 ≤ p) (hp7 : p < G 4 0) (ho : 0 ≤ S 28 p) : kChos G v K p = useF G S p := by
  obtain ⟨-, ⟨g1, g2⟩, -, -, ⟨g3, g4⟩, -, -, -, -, g6, -⟩ := id hG
  obtain ⟨⟨w1, w2, w3, w4⟩, hbr, -⟩ := hi
  obtain ⟨a1, a2, a3, a4⟩ := h
  have e1 := a3 p hp (by omega)
  have e2 := w3 p hp (by omega) (by omega)
  have e3 : K 4 p = S 29 p := by rw [e1.2.1, if_neg (by omega)]
  have e4 : K 5 p = S 30 p := by rw [e1.2.2, if_neg (by omega)]
  have ek := (hv.1 p hp hp7).1
  have eo := (a4 (S 28 p) ho (by omega)).2.1
  obtain ⟨bo, -, i, i0, i1, i2⟩ := hbr (S 28 p) ho (by omega)
  have hcol : 0 ≤ S 24 (S 28 p) := by
    rw [i2]
    have eow : S 23 (S 28 p) = p := by omega
    rw [eow] at i1 ⊢
    exact (g6 p i hp hp7 i0 i1).1
  unfold kChos useF
  dsimp only
  rw [e1.1, e3, e4, ek]
  by_cases h8 : 8 ≤ S 29 p
  · rw [if_pos (Or.inr h8), if_neg (by omega), if_neg (by omega)]
  · rw [if_neg (by omega)]
    by_cases k1 : kindF S p = 1
    · have hc1 : ¬ (S 29 p < 8 ∧ kindF S p = 2 ∧ S 30 p < 8 ∧ ¬ S 31 (S 30 p) = -2) := by omega
      have hc2 : S 29 p < 8 ∧ kindF S p = 1 := ⟨by omega, k1⟩
      rw [if_neg hc1, if_pos hc2]
      have key : ∀ j, 0 ≤ j → j < G 1 0 → decide (kTint K j = K 10 (S 28 p)) = (decide (¬ S 31 j = -2) && decide (S 24 (S 31 j) = S 24 (S 28 p))) := fun j j0 j1 => by
        have q1 := a2 j j0 (by omega)
        have q2 := w2 j j0 (by omega)
        unfold kTint
        rw [q1, eo]
        by_cases q3 : S 31 j = -2
        · rw [if_pos (by omega)]
          simp [q3]
          omega
        · have q4 := (a4 (S 31 j) (by omega) (by omega)).2.1
          rw [if_neg (by omega), q4]
          simp [q3]
      rcases fst1_spec (fun k => decide (¬ S 31 k = -2) && decide (S 24 (S 31 k) = S 24 (S 28 p))) 8 (G 1 0).toNat 0 with ⟨k, k1', k2, k3, k4, k5⟩ | ⟨k1', k2⟩
      · have e7 : fst1 (fun k => decide (kTint K k = K 10 (S 28 p))) (-1) (G 1 0).toNat 0 = k := fst1_at k1' k2 (by rw [key k k1' (by omega)]; exact k4) fun j j0 j1 => by rw [key j j0 (by omega)]; exact k5 j j0 j1
        rw [e7, k3, if_pos ⟨k1, k1'⟩]
        exact a2 k k1' (by omega)
      · have e8 := k2 (S 29 p) (by omega) (by omega)
        have e9 : S 31 (S 29 p) = S 28 p := by omega
        simp [e9] at e8
        omega
    · rw [if_neg (fun q => k1 q.1)]
      have hc2 : ¬ (S 29 p < 8 ∧ kindF S p = 1) := fun q => k1 q.2
      rw [if_neg hc2]
      by_cases k2 : kindF S p = 2 ∧ S 30 p < 8
      · have q1 := a2 (S 30 p) (by omega) (by omega)
        have q2 := w2 (S 30 p) (by omega) (by omega)
        rw [q1]
        by_cases q3 : S 31 (S 30 p) = -2
        · rw [if_neg (by omega), if_neg (by omega)]
        · rw [if_pos ⟨k2.1, k2.2, by omega⟩, if_pos ⟨by omega, k2.1, k2.2, q3⟩]
      · rw [if_neg (fun q => k2 ⟨q.1, q.2.1⟩), if_neg (fun q => k2 ⟨q.2.1, q.2.2.1⟩)]
theorem CK_u1 {K S : oV} {k : Nat} {i x : Int} (h : CK K S) (hk : k = 6 ∨ k = 7 ∨ k = 12 ∨ k = 13) : CK (u1 K k i x) S := by
  obtain ⟨a1, a2, a3, a4⟩ := h
  unfold CK
  rw [u1_o (by omega : (8 : Nat) ≠ k), u1_o (by omega : (2 : Nat) ≠ k), u1_o (by omega : (3 : Nat) ≠ k), u1_o (by omega : (4 : Nat) ≠ k), u1_o (by omega : (5 : Nat) ≠ k), u1_o (by omega : (9 : Nat) ≠ k), u1_o (by omega : (10 : Nat) ≠ k), u1_o (by omega : (11 : Nat) ≠ k)]
  exact ⟨a1, a2, a3, a4⟩
theorem CK_s1 {K S : oV} {k : Nat} {i x : Int} (h : CK K S) (hk : k = 26 ∨ k = 27 ∨ k = 32 ∨ k = 33 ∨ k = 34) : CK K (u1 S k i x) := by
  obtain ⟨a1, a2, a3, a4⟩ := h
  unfold CK
  rw [u1_o (by omega : (35 : Nat) ≠ k), u1_o (by omega : (31 : Nat) ≠ k), u1_o (by omega : (28 : Nat) ≠ k), u1_o (by omega : (29 : Nat) ≠ k), u1_o (by omega : (30 : Nat) ≠ k), u1_o (by omega : (23 : Nat) ≠ k), u1_o (by omega : (24 : Nat) ≠ k), u1_o (by omega : (25 : Nat) ≠ k)]
  exact ⟨a1, a2, a3, a4⟩
theorem CK_mess {G K S : oV} {p d : Int} (hG : GW G) (h : CK K S) (hi : IV G S d) (hp : 0 ≤ p) (hp7 : p < G 4 0) (ho : 0 ≤ S 28 p) (h8 : S 29 p < 8) : CK (kStand G (u1 K 2 (K 4 p) (-2)) p) (messF G S p) := by
  obtain ⟨-, ⟨g1, g2⟩, -, -, ⟨g3, g4⟩, -⟩ := id hG
  obtain ⟨⟨w1, w2, w3, w4⟩, -, -⟩ := hi
  obtain ⟨a1, a2, a3, a4⟩ := h
  have e1 := a3 p hp (by omega)
  have e2 := w3 p hp (by omega) (by omega)
  have e3 : K 4 p = S 29 p := by rw [e1.2.1, if_neg (by omega)]
  rw [e3]
  have hf := freeF_has (S := u1 S 31 (S 29 p) (-2)) (k := S 29 p) (by omega) g2 (by omega) (by omega) (by simp only [u1_r, if_true])
  have ef : kFree G (u1 K 2 (S 29 p) (-2)) = freeF G (u1 S 31 (S 29 p) (-2)) := by
    refine fst1_congr fun j j0 j1 => ?_
    have q1 := a2 j j0 (by omega)
    have q2 := w2 j j0 (by omega)
    simp only [u1_r, if_true, q1]
    by_cases e : j = S 29 p
    · simp [e]
    · simp only [if_neg e]
      by_cases q3 : S 31 j = -2
      · simp [q3]
      · simp only [q3, decide_false, decide_eq_false_iff_not]; omega
  unfold CK
  simp only [kStand_r, messF_r, ef, Nat.reduceEqDiff, if_false, if_true]
  generalize freeF G (u1 S 31 (S 29 p) (-2)) = f at hf
  simp only [u1_r, if_true, Nat.reduceEqDiff, if_false] at hf ⊢
  refine ⟨a1, ?_, ?_, a4⟩
  · intro k k0 k8
    have q1 := a2 k k0 k8
    clear a2 a3 a4 w2 w3 w4 hG ef
    grind
  · intro q q0 q7
    have q1 := a3 q q0 q7
    clear a2 a3 a4 w2 w3 w4 hG ef
    grind
theorem CK_ev {G K S : oV} {v : Int → Int} {p d : Int} (hG : GW G) (h : CK K S) (hi : DI G S d (d + 1)) (hv : VE G v S) (hp : 0 ≤ p) (hp7 : p < G 4 0) : CK (kEv G v d p K) (evF G d p S) := by
  unfold kEv evF
  dsimp only
  by_cases hh : hereB G p d = true
  · obtain ⟨i, i0, i1, i2, i3⟩ := hereB_iff.mp hh
    have ho := hi.2.1 p hp hp7 ⟨i, i0, i1, by omega⟩
    have hu := useF_in hG hp hp7 hi.1 ho
    have hk := kChos_eq hG h hi.1 hv hp hp7 ho
    have hfr : Fr S (u1 S 34 (7 * d + p) (-2)) := Fr.rf.wu (by omega) (by omega)
    have hus : useF G (u1 S 34 (7 * d + p) (-2)) p = useF G S p := by
      unfold useF
      simp only [kindF_fr hfr, u1_r, Nat.reduceEqDiff, if_false]
    have e29 : u1 S 34 (7 * d + p) (-2) 29 p = S 29 p := by rw [u1_o (by omega)]
    have g4 := hG.2.2.2.2.1.2
    have g2 := hG.2.1.2
    have e1 := h.2.2.1 p hp (by omega)
    have e2 := hi.1.1.2.2.1 p hp (by omega) (by omega)
    have e3 : K 4 p = S 29 p := by rw [e1.2.1, if_neg (by omega)]
    rw [if_pos hh, if_pos hh, hk, if_pos hu.1, brAtF_eq, hus, kindF_fr hfr, e29, (hv.1 p hp hp7).1]
    have e4 : ∀ x y z : Int, u1 (u1 K 6 p x) 13 y z 4 p = S 29 p := fun x y z => by rw [u1_o (by omega), u1_o (by omega)]; exact e3
    rw [e4]
    have hc : CK (u1 (u1 K 6 p (useF G S p)) 13 (useF G S p) (zAdd (u1 K 6 p (useF G S p) 13 (useF G S p)) (G 14 p))) (u1 (u1 (u1 S 34 (7 * d + p) (-2)) 34 (7 * d + p) (useF G S p)) 27 (useF G S p) (zAdd (u1 S 34 (7 * d + p) (-2) 27 (useF G S p)) (G 14 p))) := CK_u1 (CK_u1 (CK_s1 (CK_s1 (CK_s1 h (by omega)) (by omega)) (by omega)) (by omega)) (by omega)
    by_cases hm : kindF S p = 3 ∧ S 29 p < 8
    · rw [if_pos hm, if_neg (by omega)]
      have hm2 := CK_mess (p := p) (d := d) hG hc (IV_u1 (IV_u1 (IV_u1 hi.1 (by omega)) (by omega)) (by omega)) hp hp7 (by rw [u1_o (by omega), u1_o (by omega), u1_o (by omega)]; exact ho) (by rw [u1_o (by omega), u1_o (by omega), u1_o (by omega)]; exact hm.2)
      rw [e4] at hm2
      exact hm2
    · rw [if_neg hm, if_pos (by omega)]
      exact hc
  · rw [if_neg hh, if_neg hh, if_neg (by omega)]
    exact CK_u1 (CK_s1 h (by omega)) (by omega)
theorem CK_go {G K S : oV} {p d e : Int} (hG : GW G) (h : CK K S) (hi : DI G S e (d + 1)) (hp : 0 ≤ p) (hp7 : p < G 4 0) : CK (kGo G d p K) (goF G d p S) := by
  unfold kGo goF
  split
  · rename_i hh
    obtain ⟨i, i0, i1, i2⟩ := goesB_iff.mp hh.1
    have hst := hG.2.2.2.2.2.2.2.2.2.2.1 p i hp hp7 i0 i1
    have ho := hi.2.1 p hp hp7 ⟨i, i0, i1, by omega⟩
    obtain ⟨-, ⟨g1, g2⟩, -, -, ⟨g3, g4⟩, -⟩ := id hG
    obtain ⟨a1, a2, a3, a4⟩ := h
    have e1 := a3 p hp (by omega)
    have e2 := hi.1.1.2.2.1 p hp (by omega) (by omega)
    have e3 : K 4 p = S 29 p := by rw [e1.2.1, if_neg (by omega)]
    have er : ∀ (j : Nat) (m : Int), (if S 29 p < 8 then u1 S 31 (S 29 p) (-2) else S) j m = if j = 31 then (if S 29 p < 8 ∧ m = S 29 p then -2 else S 31 m) else S j m := fun j m => by
      by_cases h8 : S 29 p < 8
      · rw [if_pos h8]; simp only [u1_r]; grind
      · rw [if_neg h8]; grind
    unfold CK
    simp only [u1_r, kLift_r, er, e3, Nat.reduceEqDiff, if_false, if_true]
    refine ⟨a1, ?_, ?_, a4⟩
    · intro k k0 k8
      have q1 := a2 k k0 k8
      clear a2 a3 a4 hG hi er
      grind
    · intro q q0 q7
      have q1 := a3 q q0 q7
      clear a2 a3 a4 hG hi er
      grind
  · exact h
theorem CKs_ev {G K S : oV} {v : Int → Int} {d : Int} {j : Nat} (hG : GW G) (h : CK K S) (hi : DI G S d (d + 1)) (hv : VE G v S) (hj : j ≤ G 4 0) : CK (it (kEv G v d) j K) (it (evF G d) j S) ∧ DI G (it (evF G d) j S) d (d + 1) ∧ VE G v (it (evF G d) j S) :=
  it2_inv (fun _ K S => CK K S ∧ DI G S d (d + 1) ∧ VE G v S) ⟨h, hi, hv⟩ fun i x y i0 i1 k => ⟨CK_ev hG k.1 k.2.1 k.2.2 i0 (by omega), DI_ev1 hG k.2.1 i0 (by omega), VE_fr k.2.2 Fr_ev⟩
theorem CKs_go {G K S : oV} {d e : Int} {j : Nat} (hG : GW G) (h : CK K S) (hi : DI G S e (d + 1)) (hj : j ≤ G 4 0) : CK (it (kGo G d) j K) (it (goF G d) j S) ∧ DI G (it (goF G d) j S) e (d + 1) :=
  it2_inv (fun _ K S => CK K S ∧ DI G S e (d + 1)) ⟨h, hi⟩ fun i x y i0 i1 k => ⟨CK_go hG k.1 k.2 i0 (by omega), DI_go1 hG k.2 i0 (by omega)⟩
