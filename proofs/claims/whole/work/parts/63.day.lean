/-! THE PURE RUN: uses, going, a whole day -/
theorem freeF_has {G S : oV} {k : Int} (h1 : 0 ≤ G 1 0) (h8 : G 1 0 ≤ 8) (hk : 0 ≤ k) (hk2 : k < G 1 0) (he : S 31 k = -2) : 0 ≤ freeF G S ∧ freeF G S < G 1 0 ∧ S 31 (freeF G S) = -2 := by
  rcases freeF_spec (S := S) h1 h8 with ⟨e1, e2, e3, e4⟩ | ⟨e1, e2⟩
  · exact ⟨e1, e2, e3⟩
  · exact absurd he (e2 k hk hk2)
/-- who is messy puts his into the first place that is free -/
def messF (G S : oV) (p : Int) : oV :=
  let S3 := u1 S 31 (S 29 p) (-2)
  let S4 := u1 S3 29 p (freeF G S3)
  u1 S4 31 (S4 29 p) (S 28 p)
theorem messF_r {G S : oV} {p m : Int} {j : Nat} : messF G S p j m = if j = 29 then (if m = p then freeF G (u1 S 31 (S 29 p) (-2)) else S 29 m) else if j = 31 then (if m = freeF G (u1 S 31 (S 29 p) (-2)) then S 28 p else if m = S 29 p then -2 else S 31 m) else S j m := by
  unfold messF
  try dsimp only
  have e : u1 (u1 S 31 (S 29 p) (-2)) 29 p (freeF G (u1 S 31 (S 29 p) (-2))) 29 p = freeF G (u1 S 31 (S 29 p) (-2)) := by simp only [u1_r, if_true]
  rw [e]
  simp only [u1_r]
  grind
theorem IV_mess {G S : oV} {p d : Int} (hG : GW G) (hp : 0 ≤ p) (hp7 : p < G 4 0) (h : IV G S d) (ho : 0 ≤ S 28 p) (h8 : S 29 p < 8) : IV G (messF G S p) d := by
  obtain ⟨-, ⟨g1, g2⟩, -, -, ⟨g3, g4⟩, -, -, -, -⟩ := hG
  obtain ⟨⟨a1, a2, a3, a4⟩, hbr, hpt⟩ := h
  have e0 := a3 p hp (by omega) (by omega)
  have hf := freeF_has (S := u1 S 31 (S 29 p) (-2)) (k := S 29 p) (by omega) g2 (by omega) (by omega) (by simp only [u1_r, if_true])
  refine ⟨?_, ?_, ?_⟩
  · unfold WSx
    simp only [messF_r, Nat.reduceEqDiff, if_false, if_true]
    generalize freeF G (u1 S 31 (S 29 p) (-2)) = f at hf
    simp only [u1_r, if_true] at hf
    refine ⟨a1, ?_, ?_, a4⟩
    · intro k k0 k8
      have e1 := a2 k k0 k8
      clear a2 a3 a4 hbr hpt
      grind (splits := 20)
    · intro q q0 q7 qx
      have e1 := a3 q q0 q7 qx
      clear a2 a3 a4 hbr hpt
      grind (splits := 20)
  · intro x
    simp only [messF_r, Nat.reduceEqDiff, if_false]
    exact hbr x
  · unfold potS pot
    simp only [messF_r, Nat.reduceEqDiff, if_false]
    exact hpt
/-- fields that don't matter to IV -/
theorem IV_ext {G S T : oV} {d : Int} (h : IV G S d) (h23 : T 23 = S 23) (h24 : T 24 = S 24) (h25 : T 25 = S 25) (h28 : T 28 = S 28) (h29 : T 29 = S 29) (h30 : T 30 = S 30) (h31 : T 31 = S 31) (h35 : T 35 = S 35) : IV G T d := by
  obtain ⟨a, b, e⟩ := h
  unfold IV WSx BRx potS pot at *
  simp only [h23, h24, h25, h28, h29, h30, h31, h35]
  exact ⟨a, b, e⟩
theorem u1_o {S : oV} {k j : Nat} {i x : Int} (h : j ≠ k) : u1 S k i x j = S j := sF_ne h
theorem s1_o {S : oV} {k j : Nat} {x : Int} (h : j ≠ k) : s1 S k x j = S j := sF_ne h
theorem IV_u1 {G S : oV} {d : Int} {k : Nat} {i x : Int} (h : IV G S d) (hk : k = 26 ∨ k = 27 ∨ k = 32 ∨ k = 33 ∨ k = 34) : IV G (u1 S k i x) d := by
  refine IV_ext h ?_ ?_ ?_ ?_ ?_ ?_ ?_ ?_ <;> exact u1_o (by omega)
theorem useF_in {G S : oV} {p d : Int} (hG : GW G) (hp : 0 ≤ p) (hp7 : p < G 4 0) (h : IV G S d) (ho : 0 ≤ S 28 p) : 0 ≤ useF G S p ∧ useF G S p < S 35 0 := by
  obtain ⟨-, ⟨g1, g2⟩, -, -, ⟨g3, g4⟩, -, -, -, -⟩ := hG
  obtain ⟨⟨a1, a2, a3, a4⟩, hbr, hpt⟩ := h
  have e0 := a3 p hp (by omega) (by omega)
  unfold useF
  try dsimp only
  split
  · rename_i hh
    have e1 := a2 (S 30 p) (by omega) (by omega)
    omega
  · split
    · rename_i hh hk
      rcases fst1_spec (fun k => decide (¬ S 31 k = -2) && decide (S 24 (S 31 k) = S 24 (S 28 p))) 8 (G 1 0).toNat 0 with ⟨k, k1, k2, k3, k4, k5⟩ | ⟨k1, k2⟩
      · rw [k3]
        simp at k4
        have e1 := a2 k (by omega) (by omega)
        omega
      · have e2 := k2 (S 29 p) (by omega) (by omega)
        have e3 : S 31 (S 29 p) = S 28 p := by omega
        simp [e3] at e2
        omega
    · omega
theorem useF_own {G S : oV} {p : Int} (h : kindF S p = 3) : useF G S p = S 28 p := by
  unfold useF
  try dsimp only
  rw [if_neg (by omega), if_neg (by omega)]
theorem brAtF_eq {G S : oV} {p d : Int} : brAtF G S p d = if ¬ kindF S p = 3 ∨ 8 ≤ S 29 p then u1 (u1 S 34 (7 * d + p) (useF G S p)) 27 (useF G S p) (zAdd (S 27 (useF G S p)) (G 14 p)) else messF G (u1 (u1 S 34 (7 * d + p) (useF G S p)) 27 (useF G S p) (zAdd (S 27 (useF G S p)) (G 14 p))) p := by
  have e : ∀ x y z w : Int, u1 (u1 S 34 x y) 27 z w 28 p = S 28 p := by intros; simp only [u1_r, Nat.reduceEqDiff, if_false]
  have e1 : ∀ x y z : Int, u1 S 34 x y 27 z = S 27 z := by intros; simp only [u1_r, Nat.reduceEqDiff, if_false]
  unfold brAtF messF
  try dsimp only
  rw [e, e1]
  split
  · rfl
  · rename_i h
    rw [useF_own (by omega)]
theorem IV_brAt {G S : oV} {p d e : Int} (hG : GW G) (hp : 0 ≤ p) (hp7 : p < G 4 0) (h : IV G S d) (ho : 0 ≤ S 28 p) : IV G (brAtF G S p e) d := by
  rw [brAtF_eq]
  split
  · exact IV_u1 (IV_u1 h (by omega)) (by omega)
  · rename_i hh
    refine IV_mess hG hp hp7 (IV_u1 (IV_u1 h (by omega)) (by omega)) ?_ ?_
    · simp only [u1_r, Nat.reduceEqDiff, if_false]; exact ho
    · simp only [u1_r, Nat.reduceEqDiff, if_false]; omega
theorem goF_r {G S : oV} {p d m : Int} {j : Nat} : goF G d p S j m = if goesB G p d = true ∧ G 18 p = 1 then (if j = 29 then (if m = p then 9 else S 29 m) else if j = 31 then (if S 29 p < 8 ∧ m = S 29 p then -2 else S 31 m) else S j m) else S j m := by
  unfold goF
  split
  · by_cases h : S 29 p < 8 <;> simp only [h, if_true, if_false, u1_r] <;> grind
  · rfl
theorem IV_go {G S : oV} {p d e : Int} (hG : GW G) (hp : 0 ≤ p) (hp7 : p < G 4 0) (h : IV G S e) (ho : goesB G p d = true → 0 ≤ S 28 p) : IV G (goF G d p S) e := by
  obtain ⟨-, ⟨g1, g2⟩, -, -, ⟨g3, g4⟩, -, -, -, -⟩ := hG
  by_cases hh : goesB G p d = true ∧ G 18 p = 1
  · have ho := ho hh.1
    obtain ⟨⟨a1, a2, a3, a4⟩, hbr, hpt⟩ := h
    have e0 := a3 p hp (by omega) (by omega)
    refine ⟨?_, ?_, ?_⟩
    · unfold WSx
      simp only [goF_r, if_pos hh, Nat.reduceEqDiff, if_false, if_true]
      refine ⟨a1, ?_, ?_, a4⟩
      · intro k k0 k8
        have e1 := a2 k k0 k8
        clear a2 a3 a4 hbr hpt
        grind (splits := 20)
      · intro q q0 q7 qx
        have e1 := a3 q q0 q7 qx
        clear a2 a3 a4 hbr hpt
        grind (splits := 20)
    · intro x
      simp only [goF_r, if_pos hh, Nat.reduceEqDiff, if_false]
      exact hbr x
    · unfold potS pot
      simp only [goF_r, if_pos hh, Nat.reduceEqDiff, if_false]
      exact hpt
  · have : goF G d p S = S := by unfold goF; rw [if_neg hh]
    rw [this]
    exact h
/-- who has one keeps having one -/
def OU (S T : oV) : Prop := ∀ q, 0 ≤ S 28 q → 0 ≤ T 28 q
theorem OU_buys {G S : oV} {p d : Int} (h : 0 ≤ S 35 0) : OU S (buysF G S p d) := by
  intro q hq
  rw [buysF_eq]
  simp only [putsF_r, buy0_r, Nat.reduceEqDiff, if_false, if_true]
  split
  · exact h
  · exact hq
theorem buys_own {G S : oV} {p d : Int} : buysF G S p d 28 p = S 35 0 := by
  rw [buysF_eq]
  simp only [putsF_r, buy0_r, Nat.reduceEqDiff, if_false, if_true]
theorem come_own {G S : oV} {p d : Int} (h : 0 ≤ S 35 0) : OU S (comeF G d p S) ∧ (comesB G p d = true → S 28 p = -2 ∨ 0 ≤ S 28 p → 0 ≤ comeF G d p S 28 p) := by
  unfold comeF
  split
  · split
    · refine ⟨OU_buys h, fun _ _ => ?_⟩
      rw [buys_own]; exact h
    · split
      · refine ⟨fun q hq => ?_, fun _ h2 => ?_⟩
        · simp only [putsF_r, Nat.reduceEqDiff, if_false]; exact hq
        · simp only [putsF_r, Nat.reduceEqDiff, if_false]; omega
      · exact ⟨fun q hq => hq, fun _ h2 => by omega⟩
  · rename_i hh
    exact ⟨fun q hq => hq, fun h3 => absurd h3 hh⟩
theorem CM_ou {G S T : oV} {d : Int} (h : CM G S d) (ho : OU S T) : CM G T d := fun p h0 h1 h2 => ho p (h p h0 h1 h2)
theorem CM_28 {G S T : oV} {d : Int} (h : CM G S d) (ho : T 28 = S 28) : CM G T d := fun p h0 h1 h2 => by rw [ho]; exact h p h0 h1 h2
theorem thr_28 {S : oV} {p d : Int} : thrF S p d 28 = S 28 := by funext m; simp only [thrF_r, Nat.reduceEqDiff, if_false]
theorem ren_own {G S : oV} {p d : Int} (h : 0 ≤ S 35 0) : OU S (renF G d p S) := by
  unfold renF
  split
  · intro q hq
    exact OU_buys (by simp only [thrF_r, Nat.reduceEqDiff, if_false]; exact h) q (by rw [thr_28]; exact hq)
  · exact fun q hq => hq
theorem exch_28 {S : oV} {a b : Int} : exchF S a b 28 = S 28 := by funext m; simp only [exchF_r, Nat.reduceEqDiff, if_false]
theorem mess_28 {G S : oV} {p : Int} : messF G S p 28 = S 28 := by funext m; simp only [messF_r, Nat.reduceEqDiff, if_false]
theorem brAt_28 {G S : oV} {p d : Int} : brAtF G S p d 28 = S 28 := by
  rw [brAtF_eq]
  split
  · rw [u1_o (by omega), u1_o (by omega)]
  · rw [mess_28, u1_o (by omega), u1_o (by omega)]
theorem go_28 {G S : oV} {p d : Int} : goF G d p S 28 = S 28 := by
  funext m
  simp only [goF_r, Nat.reduceEqDiff, if_false]
  split <;> rfl
/-- all that holds as the days go on: as a day begins (d), or when those who come have come (d + 1) -/
def DI (G S : oV) (d e : Int) : Prop := IV G S d ∧ CM G S e ∧ VW G (S 18)
theorem DI_come {G S : oV} {d : Int} (hG : GW G) (hd : 0 ≤ d) (h : DI G S d d) : DI G (it (comeF G d) (G 4 0).toNat S) d (d + 1) := by
  have hp := hG.2.2.2.2.1
  have key := it_inv (f := comeF G d) (n := (G 4 0).toNat) (s := S) (fun j T => IV G T d ∧ CM G T d ∧ VW G (T 18) ∧ ∀ p, 0 ≤ p → p < j → comesB G p d = true → 0 ≤ T 28 p) ⟨h.1, h.2.1, h.2.2, fun p h1 h2 => by omega⟩ ?_
  · obtain ⟨k1, k2, k3, k4⟩ := key
    refine ⟨k1, fun p p0 p1 hi => ?_, k3⟩
    obtain ⟨i, i0, i1, i2⟩ := hi
    by_cases e : G 16 (3 * p + i) = d
    · exact k4 p p0 (by omega) (comesB_iff.mpr ⟨i, i0, i1, e⟩)
    · exact k2 p p0 p1 ⟨i, i0, i1, by omega⟩
  · intro j T j0 j1 ⟨k1, k2, k3, k4⟩
    have hj : j < G 4 0 := by omega
    obtain ⟨o1, o2⟩ := come_own (G := G) (S := T) (p := j) (d := d) k1.1.1
    refine ⟨IV_come hG j0 hj hd k1, CM_ou k2 o1, ?_, fun p p0 p1 hc => ?_⟩
    · have e := Fr_come (G := G) (S := T) (p := j) (d := d) 18 (by omega)
      rw [e]; exact k3
    · by_cases e : p = j
      · subst e
        refine o2 hc ?_
        have := k1.1.2.2.1 p p0 (by omega) (by omega)
        omega
      · exact o1 p (k4 p p0 (by omega) hc)
theorem DI_ren {G S : oV} {d : Int} (hG : GW G) (hd : 0 ≤ d) (h : DI G S d (d + 1)) : DI G (it (renF G d) (G 4 0).toNat S) d (d + 1) := by
  have hp := hG.2.2.2.2.1
  refine it_inv (f := renF G d) (n := (G 4 0).toNat) (s := S) (fun j T => DI G T d (d + 1)) h ?_
  intro j T j0 j1 ⟨k1, k2, k3⟩
  refine ⟨IV_ren hG k3 j0 (by omega) hd k1 k2, CM_ou k2 (ren_own k1.1.1), ?_⟩
  have e := Fr_ren (G := G) (S := T) (p := j) (d := d) 18 (by omega)
  rw [e]; exact k3
theorem DI_exch {G S : oV} {a b d e : Int} (hG : GW G) (h : DI G S d e) (ha : 0 ≤ a) (ha2 : a < G 1 0) (hb : 0 ≤ b) (hb2 : b < G 1 0) (hab : a ≠ b) : DI G (exchF S a b) d e := by
  refine ⟨IV_exch hG h.1 ha ha2 hb hb2 hab, CM_28 h.2.1 exch_28, ?_⟩
  rw [Fr_exch 18 (by omega)]
  exact h.2.2
theorem DI_mv1 {G S : oV} {d e k : Int} (hG : GW G) (h : DI G S d e) (hk : 0 ≤ k) (hk2 : k < G 5 0) : DI G (mvF G d k S) d e := by
  unfold mvF
  split
  · obtain ⟨m1, m2, m3, m4⟩ := hG.2.2.2.2.2.2.2.2.2.2.2.1 k hk hk2
    exact DI_exch hG h m2.1 m2.2 m3.1 m3.2 m4
  · exact h
theorem DI_mva1 {G S : oV} {d e k : Int} (hG : GW G) (h : DI G S d e) (hk : 0 ≤ k) (hk2 : k < S 18 21) : DI G (mvaF d k S) d e := by
  unfold mvaF
  split
  · obtain ⟨m1, m2, m3, m4⟩ := h.2.2.2.2.2 k hk hk2
    exact DI_exch hG h m2.1 m2.2 m3.1 m3.2 m4
  · exact h
theorem DI_morn {G S : oV} {d : Int} (hG : GW G) (hd : 0 ≤ d) (h : DI G S d d) : DI G (mornF G d S) d (d + 1) := by
  unfold mornF
  try dsimp only
  have h2 := DI_ren hG hd (DI_come hG hd h)
  have hm := hG.2.2.2.2.2.1
  have h3 : DI G (it (mvF G d) (G 5 0).toNat (it (renF G d) (G 4 0).toNat (it (comeF G d) (G 4 0).toNat S))) d (d + 1) := it_inv (fun j T => DI G T d (d + 1)) h2 fun j T j0 j1 k => DI_mv1 hG k j0 (by omega)
  generalize it (mvF G d) (G 5 0).toNat (it (renF G d) (G 4 0).toNat (it (comeF G d) (G 4 0).toNat S)) = T at h3
  have h4 := h3.2.2.2.1
  exact (it_inv (f := mvaF d) (n := (T 18 21).toNat) (s := T) (fun j U => DI G U d (d + 1) ∧ U 18 = T 18) ⟨h3, rfl⟩ fun j U j0 j1 k => ⟨DI_mva1 hG k.1 j0 (by rw [k.2]; omega), (Fr_mva 18 (by omega)).trans k.2⟩).1
theorem DI_ev1 {G S : oV} {d e p : Int} (hG : GW G) (h : DI G S e (d + 1)) (hp : 0 ≤ p) (hp7 : p < G 4 0) : DI G (evF G d p S) e (d + 1) := by
  have e18 := Fr_ev (G := G) (S := S) (p := p) (d := d) 18 (by omega)
  refine ⟨?_, ?_, by rw [e18]; exact h.2.2⟩
  · unfold evF
    try dsimp only
    split
    · rename_i hh
      obtain ⟨i, i0, i1, i2, i3⟩ := hereB_iff.mp hh
      have ho := h.2.1 p hp hp7 ⟨i, i0, i1, by omega⟩
      exact IV_brAt hG hp hp7 (IV_u1 h.1 (by omega)) (by rw [u1_o (by omega)]; exact ho)
    · exact IV_u1 h.1 (by omega)
  · refine CM_28 h.2.1 ?_
    unfold evF
    try dsimp only
    split
    · rw [brAt_28, u1_o (by omega)]
    · rw [u1_o (by omega)]
theorem DI_even {G S : oV} {d : Int} (hG : GW G) (h : DI G S d (d + 1)) : DI G (evenF G d S) d (d + 1) := by
  have hp := hG.2.2.2.2.1
  exact it_inv (fun j T => DI G T d (d + 1)) h fun j T j0 j1 k => DI_ev1 hG k j0 (by omega)
theorem DI_u1 {G S : oV} {d e : Int} {k : Nat} {i x : Int} (h : DI G S d e) (hk : k = 26 ∨ k = 27 ∨ k = 32 ∨ k = 33 ∨ k = 34) : DI G (u1 S k i x) d e := ⟨IV_u1 h.1 hk, CM_28 h.2.1 (u1_o (by omega)), by rw [u1_o (by omega)]; exact h.2.2⟩
theorem DI_note {G S : oV} {d e f : Int} (h : DI G S d e) : DI G (noteF f S) d e := it_inv (fun j T => DI G T d e) (it_inv (fun j T => DI G T d e) h fun j T j0 j1 k => DI_u1 k (by omega)) fun j T j0 j1 k => DI_u1 k (by omega)
theorem DI_go1 {G S : oV} {d e p : Int} (hG : GW G) (h : DI G S e (d + 1)) (hp : 0 ≤ p) (hp7 : p < G 4 0) : DI G (goF G d p S) e (d + 1) := by
  refine ⟨IV_go hG hp hp7 h.1 fun hg => ?_, CM_28 h.2.1 go_28, by rw [Fr_go 18 (by omega)]; exact h.2.2⟩
  obtain ⟨i, i0, i1, i2⟩ := goesB_iff.mp hg
  have := hG.2.2.2.2.2.2.2.2.2.2.1 p i hp hp7 i0 i1
  exact h.2.1 p hp hp7 ⟨i, i0, i1, by omega⟩
theorem DI_night {G S : oV} {d : Int} (hG : GW G) (h : DI G S d (d + 1)) : DI G (nightF G d S) d (d + 1) := by
  have hp := hG.2.2.2.2.1
  exact it_inv (fun j T => DI G T d (d + 1)) h fun j T j0 j1 k => DI_go1 hG k j0 (by omega)
/-- one more move may be made on a day -/
def MW (G S : oV) : Prop := S 36 0 = -1 ∨ ((0 ≤ S 37 0 ∧ S 37 0 < G 1 0) ∧ (0 ≤ S 38 0 ∧ S 38 0 < G 1 0) ∧ S 37 0 ≠ S 38 0)
theorem DI_more {G S : oV} {d e f : Int} (hG : GW G) (hd : 0 ≤ f) (h : DI G S d e) (hm : MW G S) : DI G (moreF f S) d e := by
  unfold moreF
  split
  · rcases hm with hm | ⟨m1, m2, m3⟩
    · omega
    · exact DI_exch hG h m1.1 m1.2 m2.1 m2.2 m3
  · exact h
theorem MW_fr {G S T : oV} (h : MW G S) (hf : Fr S T) : MW G T := by
  unfold MW
  rw [hf 36 (by omega), hf 37 (by omega), hf 38 (by omega)]
  exact h
theorem DI_mono {G S : oV} {d e d' : Int} (h : DI G S d e) (hd : d ≤ d') : DI G S d' e := ⟨IV_mono h.1 hd, h.2⟩
theorem DI_day {G S : oV} {d : Int} (hG : GW G) (hd : 0 ≤ d) (hm : MW G S) (h : DI G S d d) : DI G (dayF G d S) d (d + 1) := DI_night hG (DI_note (DI_even hG (DI_more hG hd (DI_morn hG hd h) (MW_fr hm Fr_morn))))
theorem run0_r {S : oV} {j : Nat} {m : Int} : run0 S j m = if j = 35 then 0 else if j = 31 then (if 0 ≤ m ∧ m < 8 then -2 else S 31 m) else if j = 28 then (if 0 ≤ m ∧ m < 7 then -2 else S 28 m) else if j = 29 then (if 0 ≤ m ∧ m < 7 then 10 else S 29 m) else if j = 30 then (if 0 ≤ m ∧ m < 7 then -2 else S 30 m) else S j m := by
  unfold run0
  simp only [it, u1_r, s1_r]
  grind (splits := 40)
theorem DI_run0 {G S : oV} (hG : GW G) (hv : VW G (S 18)) : DI G (run0 S) 0 0 := by
  refine ⟨⟨?_, ?_, ?_⟩, ?_, ?_⟩
  · unfold WSx
    simp only [run0_r, Nat.reduceEqDiff, if_false, if_true]
    refine ⟨by omega, fun k k0 k8 => Or.inl (if_pos ⟨k0, k8⟩), fun p p0 p7 _ => Or.inl ⟨if_pos ⟨p0, p7⟩, if_pos ⟨p0, p7⟩, if_pos ⟨p0, p7⟩⟩, fun b b0 b1 => by omega⟩
  · intro b b0 b1
    simp only [run0_r, if_true] at b1
    omega
  · unfold potS pot
    simp [run0_r]
  · intro p p0 p1 ⟨i, i0, i1, i2⟩
    have := hG.2.2.2.2.2.2.2.2.2.2.1 p i p0 p1 i0 i1
    omega
  · rw [Fr_run0 18 (by omega)]; exact hv
/-- behind n days -/
def daysF (G S : oV) (n : Nat) : oV := it (dayF G) n (run0 S)
theorem runF_eq {G S : oV} : runF G S = daysF G S (G 0 0).toNat := rfl
theorem Fr_days {G S : oV} {n : Nat} : Fr S (daysF G S n) := Fr.wi Fr_run0 fun _ _ => Fr_day
theorem DI_days {G S : oV} {n : Nat} (hG : GW G) (hv : VW G (S 18)) (hm : MW G S) : DI G (daysF G S n) n n := by
  have key := it_inv (f := dayF G) (n := n) (s := run0 S) (fun j T => DI G T j j ∧ MW G T) ⟨DI_run0 hG hv, MW_fr hm Fr_run0⟩ fun j T j0 j1 k => ⟨DI_mono (DI_day hG j0 k.2 k.1) (by omega), MW_fr k.2 Fr_day⟩
  exact key.1
