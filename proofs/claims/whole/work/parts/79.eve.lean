/-! EVENINGS: what the diary holds of each is what the reference holds -/
/-- what is put by of evenings stays -/
def F3 (S T : oV) : Prop := T 32 = S 32 ∧ T 33 = S 33 ∧ T 34 = S 34
theorem F3.rf {S : oV} : F3 S S := ⟨rfl, rfl, rfl⟩
theorem F3.tr {S T U : oV} (a : F3 S T) (b : F3 T U) : F3 S U := ⟨b.1.trans a.1, b.2.1.trans a.2.1, b.2.2.trans a.2.2⟩
theorem F3.wu {S T : oV} {k : Nat} {i x : Int} (h : F3 S T) (hk : k < 32 ∨ 34 < k) : F3 S (u1 T k i x) := ⟨by rw [u1_o (by omega)]; exact h.1, by rw [u1_o (by omega)]; exact h.2.1, by rw [u1_o (by omega)]; exact h.2.2⟩
theorem F3.ws {S T : oV} {k : Nat} {x : Int} (h : F3 S T) (hk : k < 32 ∨ 34 < k) : F3 S (s1 T k x) := ⟨by rw [s1_o (by omega)]; exact h.1, by rw [s1_o (by omega)]; exact h.2.1, by rw [s1_o (by omega)]; exact h.2.2⟩
theorem F3.wi {S T : oV} {f : Int → oV → oV} {n : Nat} (h : F3 S T) (hf : ∀ j U, F3 U (f j U)) : F3 S (it f n T) := by
  induction n with
  | zero => exact h
  | succ n ih => exact ih.tr (hf _ _)
theorem F3_puts {G S : oV} {p : Int} : F3 S (putsF G S p) := by
  unfold putsF
  try dsimp only
  split
  · exact ((F3.rf.wu (by omega)).wu (by omega)).wu (by omega)
  · exact (F3.rf.wu (by omega)).wu (by omega)
theorem F3_buys {G S : oV} {p d : Int} : F3 S (buysF G S p d) := by
  rw [buysF_eq]
  refine F3.tr ?_ F3_puts
  unfold buy0
  exact ((((((F3.rf.ws (by omega)).wu (by omega)).wu (by omega)).wu (by omega)).wu (by omega)).wu (by omega)).wu (by omega)
theorem F3_exch {S : oV} {a b : Int} : F3 S (exchF S a b) := by
  refine ⟨?_, ?_, ?_⟩ <;> funext m <;> simp only [exchF_r, Nat.reduceEqDiff, if_false]
theorem F3_thr {S : oV} {p d : Int} : F3 S (thrF S p d) := by
  refine ⟨?_, ?_, ?_⟩ <;> funext m <;> simp only [thrF_r, Nat.reduceEqDiff, if_false]
theorem F3_come {G S : oV} {d p : Int} : F3 S (comeF G d p S) := by
  unfold comeF
  split
  · split
    · exact F3_buys
    · split
      · exact F3_puts
      · exact F3.rf
  · exact F3.rf
theorem F3_ren {G S : oV} {d p : Int} : F3 S (renF G d p S) := by
  unfold renF
  split
  · exact F3_thr.tr F3_buys
  · exact F3.rf
theorem F3_mv {G S : oV} {d k : Int} : F3 S (mvF G d k S) := by
  unfold mvF
  split
  · exact F3_exch
  · exact F3.rf
theorem F3_mva {S : oV} {d k : Int} : F3 S (mvaF d k S) := by
  unfold mvaF
  split
  · exact F3_exch
  · exact F3.rf
theorem F3_morn {G S : oV} {d : Int} : F3 S (mornF G d S) := F3.wi (F3.wi (F3.wi (F3.wi F3.rf fun _ _ => F3_come) fun _ _ => F3_ren) fun _ _ => F3_mv) fun _ _ => F3_mva
theorem F3_go {G S : oV} {d p : Int} : F3 S (goF G d p S) := by
  refine ⟨?_, ?_, ?_⟩ <;> funext m <;> simp only [goF_r, Nat.reduceEqDiff, if_false] <;> split <;> rfl
theorem F3_night {G S : oV} {d : Int} : F3 S (nightF G d S) := F3.wi F3.rf fun _ _ => F3_go
theorem ev_32 {G S : oV} {d p : Int} : evF G d p S 32 = S 32 ∧ evF G d p S 33 = S 33 := by
  unfold evF
  try dsimp only
  split
  · rw [brAtF_eq]
    split
    · exact ⟨by rw [u1_o (by omega), u1_o (by omega), u1_o (by omega)], by rw [u1_o (by omega), u1_o (by omega), u1_o (by omega)]⟩
    · constructor <;> funext m <;> simp only [messF_r, Nat.reduceEqDiff, if_false] <;> rw [u1_o (by omega), u1_o (by omega), u1_o (by omega)]
  · exact ⟨by rw [u1_o (by omega)], by rw [u1_o (by omega)]⟩
theorem even_32 {G S : oV} {d : Int} : evenF G d S 32 = S 32 ∧ evenF G d S 33 = S 33 := it_inv (f := evF G d) (fun _ T => T 32 = S 32 ∧ T 33 = S 33) ⟨rfl, rfl⟩ fun j T _ _ k => ⟨ev_32.1.trans k.1, ev_32.2.trans k.2⟩
theorem even_34 {G S : oV} {d m : Int} (h4 : 0 ≤ G 4 0) (hm : m < 7 * d ∨ 7 * d + G 4 0 ≤ m) : evenF G d S 34 m = S 34 m := it_inv (f := evF G d) (n := (G 4 0).toNat) (s := S) (fun _ T => T 34 m = S 34 m) rfl fun j T j0 j1 k => by rw [evF_34, if_neg (by omega)]; exact k
theorem note_a {S : oV} {d : Int} : ∀ (k : Nat) (m : Int), it (fun k T => u1 T 32 (8 * d + k) (T 31 k)) 8 S k m = if k = 32 then (if 8 * d ≤ m ∧ m < 8 * d + 8 then S 31 (m - 8 * d) else S 32 m) else S k m := by
  have key := it_inv (f := fun k T => u1 T 32 (8 * d + k) (T 31 k)) (n := 8) (s := S) (fun j T => ∀ (k : Nat) (m : Int), T k m = if k = 32 then (if 8 * d ≤ m ∧ m < 8 * d + j then S 31 (m - 8 * d) else S 32 m) else S k m) ?_ ?_
  · exact key
  · intro k m
    by_cases e : k = 32
    · subst e; rw [if_pos rfl, if_neg (by omega)]
    · rw [if_neg e]
  · intro j T j0 j1 ih k m
    simp only [u1_r, ih 31, Nat.reduceEqDiff, if_false]
    by_cases e : k = 32
    · subst e
      rw [if_pos rfl, if_pos rfl, ih 32, if_pos rfl]
      by_cases e2 : m = 8 * d + j
      · subst e2
        rw [if_pos rfl, if_pos (by omega)]
        congr 1
        omega
      · rw [if_neg e2]
        by_cases e3 : 8 * d ≤ m ∧ m < 8 * d + j
        · rw [if_pos e3, if_pos (by omega)]
        · rw [if_neg e3, if_neg (by omega)]
    · rw [if_neg e, if_neg e, ih k m, if_neg e]
theorem note_b {S : oV} {d : Int} : ∀ (k : Nat) (m : Int), it (fun p T => u1 T 33 (7 * d + p) (T 29 p)) 7 S k m = if k = 33 then (if 7 * d ≤ m ∧ m < 7 * d + 7 then S 29 (m - 7 * d) else S 33 m) else S k m := by
  have key := it_inv (f := fun p T => u1 T 33 (7 * d + p) (T 29 p)) (n := 7) (s := S) (fun j T => ∀ (k : Nat) (m : Int), T k m = if k = 33 then (if 7 * d ≤ m ∧ m < 7 * d + j then S 29 (m - 7 * d) else S 33 m) else S k m) ?_ ?_
  · exact key
  · intro k m
    by_cases e : k = 33
    · subst e; rw [if_pos rfl, if_neg (by omega)]
    · rw [if_neg e]
  · intro j T j0 j1 ih k m
    simp only [u1_r, ih 29, Nat.reduceEqDiff, if_false]
    by_cases e : k = 33
    · subst e
      rw [if_pos rfl, if_pos rfl, ih 33, if_pos rfl]
      by_cases e2 : m = 7 * d + j
      · subst e2
        rw [if_pos rfl, if_pos (by omega)]
        congr 1
        omega
      · rw [if_neg e2]
        by_cases e3 : 7 * d ≤ m ∧ m < 7 * d + j
        · rw [if_pos e3, if_pos (by omega)]
        · rw [if_neg e3, if_neg (by omega)]
    · rw [if_neg e, if_neg e, ih k m, if_neg e]
theorem noteF_r {S : oV} {d m : Int} {k : Nat} : noteF d S k m = if k = 33 then (if 7 * d ≤ m ∧ m < 7 * d + 7 then S 29 (m - 7 * d) else S 33 m) else if k = 32 then (if 8 * d ≤ m ∧ m < 8 * d + 8 then S 31 (m - 8 * d) else S 32 m) else S k m := by
  unfold noteF
  rw [note_b, note_a, note_a, note_a]
  simp only [Nat.reduceEqDiff, if_false]
/-- what the reference has put by of a day, in terms of its evening E -/
theorem day_3 {G S : oV} {d : Int} (hm : S 36 0 = -1) (hd : 0 ≤ d) (h4 : 0 ≤ G 4 0) (h47 : G 4 0 ≤ 7) : (∀ k, 0 ≤ k → k < 8 → dayF G d S 32 (8 * d + k) = evenF G d (mornF G d S) 31 k) ∧ (∀ p, 0 ≤ p → p < 7 → dayF G d S 33 (7 * d + p) = evenF G d (mornF G d S) 29 p) ∧ (∀ m, dayF G d S 34 m = evenF G d (mornF G d S) 34 m) ∧ (∀ m, m < 8 * d ∨ 8 * d + 8 ≤ m → dayF G d S 32 m = S 32 m) ∧ (∀ m, m < 7 * d ∨ 7 * d + 7 ≤ m → dayF G d S 33 m = S 33 m) ∧ (∀ m, m < 7 * d ∨ 7 * d + 7 ≤ m → dayF G d S 34 m = S 34 m) := by
  rw [dayF_eq hm hd]
  have f := F3_night (G := G) (S := noteF d (evenF G d (mornF G d S))) (d := d)
  have e32 := even_32 (G := G) (S := mornF G d S) (d := d)
  have fm := F3_morn (G := G) (S := S) (d := d)
  refine ⟨fun k k0 k8 => ?_, fun p p0 p7 => ?_, fun m => ?_, fun m h => ?_, fun m h => ?_, fun m h => ?_⟩
  · rw [f.1, noteF_r, if_neg (by decide), if_pos rfl, if_pos (by omega)]
    congr 1
    omega
  · rw [f.2.1, noteF_r, if_pos rfl, if_pos (by omega)]
    congr 1
    omega
  · rw [f.2.2, noteF_r, if_neg (by decide), if_neg (by decide)]
  · rw [f.1, noteF_r, if_neg (by decide), if_pos rfl, if_neg (by omega), e32.1, fm.1]
  · rw [f.2.1, noteF_r, if_pos rfl, if_neg (by omega), e32.2, fm.2.1]
  · rw [f.2.2, noteF_r, if_neg (by decide), if_neg (by decide), even_34 h4 (by omega), fm.2.2]
