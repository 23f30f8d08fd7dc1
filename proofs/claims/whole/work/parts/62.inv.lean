/-! THE PURE RUN: what holds all along -/
theorem anyB_iff {n : Nat} {P : Int → Bool} : anyB n P = true ↔ ∃ i : Int, 0 ≤ i ∧ i < n ∧ P i = true := by
  induction n with
  | zero => simp [anyB]; intro i h1 h2; omega
  | succ n ih =>
    simp only [anyB, Bool.or_eq_true, ih]
    constructor
    · rintro (⟨i, h1, h2, h3⟩ | h)
      · exact ⟨i, h1, by omega, h3⟩
      · exact ⟨n, by omega, by omega, h⟩
    · rintro ⟨i, h1, h2, h3⟩
      by_cases e : i = n
      · subst e; exact Or.inr h3
      · exact Or.inl ⟨i, h1, by omega, h3⟩
theorem comesB_iff {G : oV} {p d : Int} : comesB G p d = true ↔ ∃ i, 0 ≤ i ∧ i < G 15 p ∧ G 16 (3 * p + i) = d := by
  unfold comesB
  rw [anyB_iff]
  constructor
  · rintro ⟨i, h1, h2, h3⟩; exact ⟨i, h1, by omega, of_decide_eq_true h3⟩
  · rintro ⟨i, h1, h2, h3⟩; exact ⟨i, h1, by omega, decide_eq_true h3⟩
theorem goesB_iff {G : oV} {p d : Int} : goesB G p d = true ↔ ∃ i, 0 ≤ i ∧ i < G 15 p ∧ G 17 (3 * p + i) = d := by
  unfold goesB
  rw [anyB_iff]
  constructor
  · rintro ⟨i, h1, h2, h3⟩; exact ⟨i, h1, by omega, of_decide_eq_true h3⟩
  · rintro ⟨i, h1, h2, h3⟩; exact ⟨i, h1, by omega, decide_eq_true h3⟩
theorem hereB_iff {G : oV} {p d : Int} : hereB G p d = true ↔ ∃ i, 0 ≤ i ∧ i < G 15 p ∧ G 16 (3 * p + i) ≤ d ∧ d ≤ G 17 (3 * p + i) := by
  unfold hereB
  rw [anyB_iff]
  constructor
  · rintro ⟨i, h1, h2, h3⟩
    simp at h3
    exact ⟨i, h1, by omega, h3⟩
  · rintro ⟨i, h1, h2, h3, h4⟩; exact ⟨i, h1, by omega, by simp [h3, h4]⟩
/-- only what a run writes is changed -/
def Fr (S T : oV) : Prop := ∀ k : Nat, k < 23 ∨ 35 < k → T k = S k
theorem Fr.rf {S : oV} : Fr S S := fun _ _ => rfl
theorem Fr.tr {S T U : oV} (a : Fr S T) (b : Fr T U) : Fr S U := fun k h => (b k h).trans (a k h)
theorem Fr.wu {S T : oV} {k : Nat} {i x : Int} (h : Fr S T) (h1 : 23 ≤ k) (h2 : k ≤ 35) : Fr S (u1 T k i x) := fun j hj => by
  unfold u1
  rw [sF_ne (by omega)]
  exact h j hj
theorem Fr.ws {S T : oV} {k : Nat} {x : Int} (h : Fr S T) (h1 : 23 ≤ k) (h2 : k ≤ 35) : Fr S (s1 T k x) := fun j hj => by
  unfold s1
  rw [sF_ne (by omega)]
  exact h j hj
theorem Fr.wi {S T : oV} {f : Int → oV → oV} {n : Nat} (h : Fr S T) (hf : ∀ j U, Fr U (f j U)) : Fr S (it f n T) := by
  induction n with
  | zero => exact h
  | succ n ih => exact ih.tr (hf _ _)
theorem Fr_puts {G S : oV} {p : Int} : Fr S (putsF G S p) := by
  unfold putsF
  dsimp only
  split
  · exact ((Fr.rf.wu (by omega) (by omega)).wu (by omega) (by omega)).wu (by omega) (by omega)
  · exact (Fr.rf.wu (by omega) (by omega)).wu (by omega) (by omega)
theorem Fr_buys {G S : oV} {p d : Int} : Fr S (buysF G S p d) := by
  rw [buysF_eq]
  refine Fr.tr ?_ Fr_puts
  unfold buy0
  exact (((((((Fr.rf.ws (by omega) (by omega)).wu (by omega) (by omega)).wu (by omega) (by omega)).wu (by omega) (by omega)).wu (by omega) (by omega)).wu (by omega) (by omega)).wu (by omega) (by omega))
theorem Fr_exch {S : oV} {a b : Int} : Fr S (exchF S a b) := by
  unfold exchF
  dsimp only
  have h1 : Fr S (u1 (u1 S 31 a (S 31 b)) 31 b (S 31 a)) := (Fr.rf.wu (by omega) (by omega)).wu (by omega) (by omega)
  split <;> split
  · exact h1
  · exact h1.wu (by omega) (by omega)
  · exact h1.wu (by omega) (by omega)
  · exact (h1.wu (by omega) (by omega)).wu (by omega) (by omega)
theorem Fr_brAt {G S : oV} {p d : Int} : Fr S (brAtF G S p d) := by
  unfold brAtF
  dsimp only
  split
  · exact (Fr.rf.wu (by omega) (by omega)).wu (by omega) (by omega)
  · exact ((((Fr.rf.wu (by omega) (by omega)).wu (by omega) (by omega)).wu (by omega) (by omega)).wu (by omega) (by omega)).wu (by omega) (by omega)
theorem Fr_thr {S : oV} {p d : Int} : Fr S (thrF S p d) := by
  unfold thrF
  dsimp only
  split
  · exact (Fr.rf.wu (by omega) (by omega)).wu (by omega) (by omega)
  · exact Fr.rf.wu (by omega) (by omega)
theorem Fr_come {G S : oV} {p d : Int} : Fr S (comeF G d p S) := by
  unfold comeF
  split
  · split
    · exact Fr_buys
    · split
      · exact Fr_puts
      · exact Fr.rf
  · exact Fr.rf
theorem Fr_ren {G S : oV} {p d : Int} : Fr S (renF G d p S) := by
  unfold renF
  split
  · exact Fr_thr.tr Fr_buys
  · exact Fr.rf
theorem Fr_mv {G S : oV} {k d : Int} : Fr S (mvF G d k S) := by
  unfold mvF
  split
  · exact Fr_exch
  · exact Fr.rf
theorem Fr_mva {S : oV} {k d : Int} : Fr S (mvaF d k S) := by
  unfold mvaF
  split
  · exact Fr_exch
  · exact Fr.rf
theorem Fr_more {S : oV} {d : Int} : Fr S (moreF d S) := by
  unfold moreF
  split
  · exact Fr_exch
  · exact Fr.rf
theorem Fr_morn {G S : oV} {d : Int} : Fr S (mornF G d S) := by
  unfold mornF
  dsimp only
  exact Fr.wi (Fr.wi (Fr.wi (Fr.wi Fr.rf fun _ _ => Fr_come) fun _ _ => Fr_ren) fun _ _ => Fr_mv) fun _ _ => Fr_mva
theorem Fr_ev {G S : oV} {p d : Int} : Fr S (evF G d p S) := by
  unfold evF
  dsimp only
  split
  · exact (Fr.rf.wu (by omega) (by omega)).tr Fr_brAt
  · exact Fr.rf.wu (by omega) (by omega)
theorem Fr_even {G S : oV} {d : Int} : Fr S (evenF G d S) := Fr.wi Fr.rf fun _ _ => Fr_ev
theorem Fr_note {S : oV} {d : Int} : Fr S (noteF d S) := Fr.wi (Fr.wi Fr.rf fun _ _ => Fr.rf.wu (by omega) (by omega)) fun _ _ => Fr.rf.wu (by omega) (by omega)
theorem Fr_go {G S : oV} {p d : Int} : Fr S (goF G d p S) := by
  unfold goF
  split
  · split
    · exact (Fr.rf.wu (by omega) (by omega)).wu (by omega) (by omega)
    · exact Fr.rf.wu (by omega) (by omega)
  · exact Fr.rf
theorem Fr_night {G S : oV} {d : Int} : Fr S (nightF G d S) := Fr.wi Fr.rf fun _ _ => Fr_go
theorem Fr_day {G S : oV} {d : Int} : Fr S (dayF G d S) := (((Fr_morn.tr Fr_more).tr Fr_even).tr Fr_note).tr Fr_night
theorem Fr_run0 {S : oV} : Fr S (run0 S) := Fr.wi (Fr.wi (Fr.rf.ws (by omega) (by omega)) fun _ _ => Fr.rf.wu (by omega) (by omega)) fun _ _ => ((Fr.rf.wu (by omega) (by omega)).wu (by omega) (by omega)).wu (by omega) (by omega)
theorem Fr_run {G S : oV} : Fr S (runF G S) := Fr.wi Fr_run0 fun _ _ => Fr_day
theorem IV_mono {G S : oV} {d d' : Int} (h : IV G S d) (hd : d ≤ d') : IV G S d' := ⟨h.1, fun b b0 b1 => ⟨(h.2.1 b b0 b1).1, ⟨(h.2.1 b b0 b1).2.1.1, by have := (h.2.1 b b0 b1).2.1.2; omega⟩, (h.2.1 b b0 b1).2.2⟩, h.2.2⟩
theorem IV_cap {G S : oV} {d : Int} (h : IV G S d) (hd : d ≤ 29) : S 35 0 ≤ 70 := by
  obtain ⟨hw, hb, hp⟩ := h
  have key : ∀ q, 0 ≤ q → q < 7 → pot S q ≤ 10 := by
    intro q q0 q7
    have e1 := hw.2.2.1 q q0 q7 (by omega)
    unfold pot
    split
    · omega
    · have e2 := (hb (S 28 q) (by omega) (by omega)).2.1
      omega
  have h0 := key 0 (by omega) (by omega)
  have h1 := key 1 (by omega) (by omega)
  have h2 := key 2 (by omega) (by omega)
  have h3 := key 3 (by omega) (by omega)
  have h4 := key 4 (by omega) (by omega)
  have h5 := key 5 (by omega) (by omega)
  have h6 := key 6 (by omega) (by omega)
  unfold potS at hp
  omega
theorem Bu_cap {G S : oV} {p d : Int} (hG : GW G) (hp : 0 ≤ p) (hp7 : p < G 4 0) (hd : 0 ≤ d) (hd9 : d ≤ 29) (hb : Bu G S p d) : S 35 0 < 70 := by
  have := IV_cap (IV_buys hG hp hp7 hd hb) hd9
  rw [buysF_eq, putsF_r] at this
  simp only [buy0_r, Nat.reduceEqDiff, if_false, if_true] at this
  omega
theorem WSx_none {G S : oV} {p : Int} (h : WSx G S (-1)) (hp : 0 ≤ p) (hno : ∀ k, 0 ≤ k → k < 8 → S 31 k ≠ -2 → S 23 (S 31 k) ≠ p) : WSx G S p := by
  obtain ⟨a1, a2, a3, a4⟩ := h
  refine ⟨a1, fun k k0 k8 => ?_, fun q q0 q7 _ => a3 q q0 q7 (by omega), a4⟩
  have e1 := a2 k k0 k8
  have e2 := hno k k0 k8
  clear a2 a3 a4 hno
  grind
theorem WSx_out {G S : oV} {p : Int} (h : WSx G S (-1)) (hp : 0 ≤ p) (hp8 : 8 ≤ S 29 p) : WSx G S p := WSx_none h hp fun k k0 k8 hk e => by
  have e1 := h.2.1 k k0 k8
  clear h
  grind
theorem WSx_no {G S : oV} {p : Int} (h : WSx G S (-1)) (hp : 0 ≤ p) (hp8 : S 28 p = -2) : WSx G S p := WSx_none h hp fun k k0 k8 hk e => by
  have e1 := h.2.1 k k0 k8
  clear h
  grind
theorem IV_puts {G S : oV} {p d : Int} (hG : GW G) (hp : 0 ≤ p) (hp7 : p < G 4 0) (h : IV G S d) (ho : S 28 p ≠ -2) (h8 : 8 ≤ S 29 p) : IV G (putsF G S p) d := by
  obtain ⟨-, ⟨g1, g2⟩, -, -, ⟨g3, g4⟩, -, -, -, -⟩ := hG
  obtain ⟨hw, hb, hpt⟩ := h
  have e1 := hw.2.2.1 p hp (by omega) (by omega)
  refine ⟨WS_puts (by omega) g2 hp (by omega) (WSx_out hw hp h8) (by omega) (by omega) (by omega), ?_, ?_⟩
  · intro b
    simp only [putsF_r, Nat.reduceEqDiff, if_false]
    exact hb b
  · unfold potS pot
    simp only [putsF_r, Nat.reduceEqDiff, if_false]
    exact hpt
theorem IV_come {G S : oV} {p d : Int} (hG : GW G) (hp : 0 ≤ p) (hp7 : p < G 4 0) (hd : 0 ≤ d) (h : IV G S d) : IV G (comeF G d p S) d := by
  unfold comeF
  split
  · split
    · rename_i ho
      have hw := h.1
      refine IV_buys hG hp hp7 hd ⟨WSx_no hw hp ho, h.2.1, ?_⟩
      have e1 : pot S p = 0 := by unfold pot; rw [if_pos ho]
      have := h.2.2
      omega
    · split
      · exact IV_puts hG hp hp7 h (by assumption) (by assumption)
      · exact h
  · exact h
theorem thrF_r {S : oV} {p d m : Int} {j : Nat} : thrF S p d j m = if j = 26 then (if m = S 28 p then d else S 26 m) else if j = 31 then (if S 29 p < 8 ∧ m = S 29 p then -2 else S 31 m) else S j m := by
  unfold thrF
  have e : u1 S 26 (S 28 p) d 29 p = S 29 p := by simp only [u1_r, Nat.reduceEqDiff, if_false]
  rw [e]
  by_cases h : S 29 p < 8 <;> simp only [h, if_true, if_false, u1_r] <;> grind
theorem Bu_thr {G S : oV} {p d : Int} (hG : GW G) (hp : 0 ≤ p) (hp7 : p < G 4 0) (h : IV G S d) (ho : 0 ≤ S 28 p) (hk : 3 ≤ d - S 25 (S 28 p)) : Bu G (thrF S p d) p d := by
  obtain ⟨-, ⟨g1, g2⟩, -, -, ⟨g3, g4⟩, -, -, -, -⟩ := hG
  obtain ⟨⟨a1, a2, a3, a4⟩, hb, hpt⟩ := h
  have e0 := a3 p hp (by omega) (by omega)
  refine ⟨?_, ?_, ?_⟩
  · unfold WSx
    simp only [thrF_r, Nat.reduceEqDiff, if_false, if_true]
    refine ⟨a1, ?_, ?_, a4⟩
    · intro k k0 k8
      have e1 := a2 k k0 k8
      clear a2 a3 a4 hb
      grind
    · intro q q0 q7 qx
      have e1 := a3 q q0 q7 (by omega)
      clear a2 a3 a4 hb
      grind
  · intro b
    simp only [thrF_r, Nat.reduceEqDiff, if_false]
    exact hb b
  · have e1 : ∀ q, pot (thrF S p d) q = pot S q := by
      intro q
      unfold pot
      simp only [thrF_r, Nat.reduceEqDiff, if_false]
    unfold potS
    simp only [e1]
    unfold potS at hpt
    have e2 : pot S p = S 25 (S 28 p) / 3 + 1 := by unfold pot; rw [if_neg (by omega)]
    rw [e2]
    simp only [thrF_r, Nat.reduceEqDiff, if_false]
    omega
/-- whoever came has one -/
def CM (G S : oV) (d : Int) : Prop := ∀ p, 0 ≤ p → p < G 4 0 → (∃ i, 0 ≤ i ∧ i < G 15 p ∧ G 16 (3 * p + i) < d) → 0 ≤ S 28 p
theorem IV_ren {G S : oV} {p d : Int} (hG : GW G) (hv : VW G (S 18)) (hp : 0 ≤ p) (hp7 : p < G 4 0) (hd : 0 ≤ d) (h : IV G S d) (hc : CM G S (d + 1)) : IV G (renF G d p S) d := by
  unfold renF
  split
  · rename_i hh
    obtain ⟨i, i0, i1, i2, i3⟩ := hereB_iff.mp hh.1
    have ho := hc p hp hp7 ⟨i, i0, i1, by omega⟩
    have hk := (hv.1 p hp hp7).2.2.1
    exact IV_buys hG hp hp7 hd (Bu_thr hG hp hp7 h ho (by omega))
  · exact h
theorem exchF_r {S : oV} {a b m : Int} {j : Nat} : exchF S a b j m = if j = 31 then (if m = b then S 31 a else if m = a then S 31 b else S 31 m) else if j = 29 then (if S 31 b ≠ -2 ∧ m = S 23 (S 31 b) then a else if S 31 a ≠ -2 ∧ m = S 23 (S 31 a) then b else S 29 m) else S j m := by
  unfold exchF
  by_cases h1 : S 31 a = -2 <;> by_cases h2 : S 31 b = -2 <;> simp only [h1, h2, if_true, if_false, u1_r, Nat.reduceEqDiff] <;> grind
theorem IV_exch {G S : oV} {a b d : Int} (hG : GW G) (h : IV G S d) (ha : 0 ≤ a) (ha2 : a < G 1 0) (hb : 0 ≤ b) (hb2 : b < G 1 0) (hab : a ≠ b) : IV G (exchF S a b) d := by
  obtain ⟨-, ⟨g1, g2⟩, -, -, ⟨g3, g4⟩, -, -, -, -⟩ := hG
  obtain ⟨⟨a1, a2, a3, a4⟩, hbr, hpt⟩ := h
  have ea := a2 a ha (by omega)
  have eb := a2 b hb (by omega)
  refine ⟨?_, ?_, ?_⟩
  · unfold WSx
    simp only [exchF_r, Nat.reduceEqDiff, if_false, if_true]
    refine ⟨a1, ?_, ?_, a4⟩
    · intro k k0 k8
      have e1 := a2 k k0 k8
      clear a2 a3 a4 hbr hpt
      by_cases k1 : k = b
      · subst k1
        simp only [if_true]
        rcases ea with ea | ea
        · exact Or.inl ea
        · grind (splits := 20)
      · by_cases k2 : k = a
        · subst k2
          simp only [if_true, if_neg k1]
          grind (splits := 20)
        · simp only [if_neg k1, if_neg k2]
          grind (splits := 20)
    · intro q q0 q7 qx
      have e1 := a3 q q0 q7 qx
      clear a2 a3 a4 hbr hpt
      by_cases k1 : S 31 b ≠ -2 ∧ q = S 23 (S 31 b)
      · simp only [if_pos k1]
        grind (splits := 20)
      · by_cases k2 : S 31 a ≠ -2 ∧ q = S 23 (S 31 a)
        · simp only [if_pos k2, if_neg k1]
          grind (splits := 20)
        · simp only [if_neg k1, if_neg k2]
          grind (splits := 20)
  · intro x
    simp only [exchF_r, Nat.reduceEqDiff, if_false]
    exact hbr x
  · unfold potS pot
    simp only [exchF_r, Nat.reduceEqDiff, if_false]
    exact hpt
