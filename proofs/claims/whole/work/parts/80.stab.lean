/-! BRUSHES STAY WHAT THEY ARE; what is put by of evenings is of brushes -/
def OS (S T : oV) : Prop := S 35 0 ≤ T 35 0 ∧ ∀ b, 0 ≤ b → b < S 35 0 → T 23 b = S 23 b ∧ T 24 b = S 24 b
theorem OS.rf {S : oV} : OS S S := ⟨Int.le_refl _, fun _ _ _ => ⟨rfl, rfl⟩⟩
theorem OS.tr {S T U : oV} (a : OS S T) (b : OS T U) : OS S U := ⟨Int.le_trans a.1 b.1, fun x x0 x1 => ⟨(b.2 x x0 (by have := a.1; omega)).1.trans (a.2 x x0 x1).1, (b.2 x x0 (by have := a.1; omega)).2.trans (a.2 x x0 x1).2⟩⟩
theorem OS.ext {S T : oV} (h23 : T 23 = S 23) (h24 : T 24 = S 24) (h35 : T 35 = S 35) : OS S T := ⟨by rw [h35]; exact Int.le_refl _, fun b _ _ => ⟨by rw [h23], by rw [h24]⟩⟩
theorem OS_buys {G S : oV} {p d : Int} : OS S (buysF G S p d) := by
  rw [buysF_eq]
  unfold OS
  simp only [putsF_r, buy0_r, Nat.reduceEqDiff, if_false, if_true]
  refine ⟨by omega, fun b b0 b1 => ?_⟩
  rw [if_neg (by omega), if_neg (by omega)]
  exact ⟨rfl, rfl⟩
theorem OS_puts {G S : oV} {p : Int} : OS S (putsF G S p) := by
  refine OS.ext ?_ ?_ ?_ <;> funext m <;> simp only [putsF_r, Nat.reduceEqDiff, if_false]
theorem OS_exch {S : oV} {a b : Int} : OS S (exchF S a b) := by
  refine OS.ext ?_ ?_ ?_ <;> funext m <;> simp only [exchF_r, Nat.reduceEqDiff, if_false]
theorem OS_thr {S : oV} {p d : Int} : OS S (thrF S p d) := by
  refine OS.ext ?_ ?_ ?_ <;> funext m <;> simp only [thrF_r, Nat.reduceEqDiff, if_false]
theorem OS_come {G S : oV} {d p : Int} : OS S (comeF G d p S) := by
  unfold comeF
  split
  · split
    · exact OS_buys
    · split
      · exact OS_puts
      · exact OS.rf
  · exact OS.rf
theorem OS_ren {G S : oV} {d p : Int} : OS S (renF G d p S) := by
  unfold renF
  split
  · exact OS_thr.tr OS_buys
  · exact OS.rf
theorem OS_mv {G S : oV} {d k : Int} : OS S (mvF G d k S) := by
  unfold mvF
  split
  · exact OS_exch
  · exact OS.rf
theorem OS_mva {S : oV} {d k : Int} : OS S (mvaF d k S) := by
  unfold mvaF
  split
  · exact OS_exch
  · exact OS.rf
theorem OS.wi {S T : oV} {f : Int → oV → oV} {n : Nat} (h : OS S T) (hf : ∀ j U, OS U (f j U)) : OS S (it f n T) := by
  induction n with
  | zero => exact h
  | succ n ih => exact ih.tr (hf _ _)
theorem OS_morn {G S : oV} {d : Int} : OS S (mornF G d S) := OS.wi (OS.wi (OS.wi (OS.wi OS.rf fun _ _ => OS_come) fun _ _ => OS_ren) fun _ _ => OS_mv) fun _ _ => OS_mva
theorem ev_23 {G S : oV} {d p : Int} : evF G d p S 23 = S 23 ∧ evF G d p S 24 = S 24 := by
  unfold evF
  try dsimp only
  split
  · rw [brAtF_eq]
    split
    · exact ⟨by rw [u1_o (by omega), u1_o (by omega), u1_o (by omega)], by rw [u1_o (by omega), u1_o (by omega), u1_o (by omega)]⟩
    · constructor <;> funext m <;> simp only [messF_r, Nat.reduceEqDiff, if_false] <;> rw [u1_o (by omega), u1_o (by omega), u1_o (by omega)]
  · exact ⟨by rw [u1_o (by omega)], by rw [u1_o (by omega)]⟩
/-- of an evening on: brushes, owners, colours are the same up to the day's end -/
def E3 (S T : oV) : Prop := T 23 = S 23 ∧ T 24 = S 24 ∧ T 35 = S 35
theorem E3_even {G S : oV} {d : Int} : E3 S (evenF G d S) := it_inv (f := evF G d) (fun _ T => E3 S T) ⟨rfl, rfl, rfl⟩ fun j T _ _ k => ⟨ev_23.1.trans k.1, ev_23.2.trans k.2.1, ev_35.trans k.2.2⟩
theorem E3_note {S : oV} {d : Int} : E3 S (noteF d S) := by
  refine ⟨?_, ?_, ?_⟩ <;> funext m <;> simp only [noteF_r, Nat.reduceEqDiff, if_false]
theorem E3_night {G S : oV} {d : Int} : E3 S (nightF G d S) := it_inv (f := goF G d) (fun _ T => E3 S T) ⟨rfl, rfl, rfl⟩ fun j T _ _ k => by
  have e : E3 T (goF G d j T) := by
    refine ⟨?_, ?_, ?_⟩ <;> funext m <;> simp only [goF_r, Nat.reduceEqDiff, if_false] <;> split <;> rfl
  exact ⟨e.1.trans k.1, e.2.1.trans k.2.1, e.2.2.trans k.2.2⟩
/-- a day's evening, and what the day ends with -/
theorem E3_day {G S : oV} {d : Int} (hm : S 36 0 = -1) (hd : 0 ≤ d) : E3 (evenF G d (mornF G d S)) (dayF G d S) := by
  rw [dayF_eq hm hd]
  have a := E3_note (S := evenF G d (mornF G d S)) (d := d)
  have b := E3_night (G := G) (S := noteF d (evenF G d (mornF G d S))) (d := d)
  exact ⟨b.1.trans a.1, b.2.1.trans a.2.1, b.2.2.trans a.2.2⟩
theorem OS_day {G S : oV} {d : Int} (hm : S 36 0 = -1) (hd : 0 ≤ d) : OS S (dayF G d S) := by
  have a := E3_even (G := G) (S := mornF G d S) (d := d)
  have b := E3_day (G := G) hm hd
  exact (OS_morn.tr (OS.ext a.1 a.2.1 a.2.2)).tr (OS.ext b.1 b.2.1 b.2.2)
/-- what is put by of the first n days is of brushes -/
def RG (G S : oV) (n : Int) : Prop := ∀ d, 0 ≤ d → d < n → (∀ k, 0 ≤ k → k < 8 → S 32 (8 * d + k) = -2 ∨ (0 ≤ S 32 (8 * d + k) ∧ S 32 (8 * d + k) < S 35 0 ∧ k < G 1 0)) ∧ (∀ p, 0 ≤ p → p < G 4 0 → S 34 (7 * d + p) = -2 ∨ (0 ≤ S 34 (7 * d + p) ∧ S 34 (7 * d + p) < S 35 0))
theorem RG_day {G S : oV} {d : Int} (hG : GW G) (h : RG G S d) (hi : DI G S d d) (hm : S 36 0 = -1) (hd : 0 ≤ d) : RG G (dayF G d S) (d + 1) := by
  have hp := hG.2.2.2.2.1
  have d1 := DI_morn hG hd hi
  have d2 := DI_even hG d1
  have d3 := day_3 (G := G) hm hd (by omega) hp.2
  have e3 := E3_day (G := G) hm hd
  have os := OS_day (G := G) hm hd
  have er := ev_rng hG d1
  intro d' d0 d4
  by_cases e : d' = d
  · subst e
    refine ⟨fun k k0 k8 => ?_, fun p p0 p1 => ?_⟩
    · rw [d3.1 k k0 k8, e3.2.2]
      have := d2.1.1.2.1 k k0 k8
      omega
    · rw [d3.2.2.1, e3.2.2]
      exact er p p0 p1
  · obtain ⟨h1, h2⟩ := h d' d0 (by omega)
    refine ⟨fun k k0 k8 => ?_, fun p p0 p1 => ?_⟩
    · rw [d3.2.2.2.1 _ (by omega)]
      have := h1 k k0 k8
      have := os.1
      omega
    · rw [d3.2.2.2.2.2 _ (by omega)]
      have := h2 p p0 p1
      have := os.1
      omega
theorem nPl_1 {G K D : oV} {d : Int} (h1 : 0 ≤ G 1 0) : (∀ m, (nPl G K d D).1 1 m = if 8 * d ≤ m ∧ m < 8 * d + G 1 0 then K 2 (m - 8 * d) else D 1 m) ∧ ∀ k : Nat, k ≠ 1 → k ≠ 4 → k ≠ 11 → (nPl G K d D).1 k = D k := by
  have key := it_inv (f := nP1 K d) (n := (G 1 0).toNat) (s := (sF D 4 (fun _ => 0), 0)) (fun j X => (∀ m, X.1 1 m = if 8 * d ≤ m ∧ m < 8 * d + j then K 2 (m - 8 * d) else D 1 m) ∧ ∀ k : Nat, k ≠ 1 → k ≠ 4 → k ≠ 11 → X.1 k = D k) ?_ ?_
  · have e : (((G 1 0).toNat : Nat) : Int) = G 1 0 := by omega
    rw [e] at key
    exact key
  · refine ⟨fun m => ?_, fun k a b c => ?_⟩
    · rw [if_neg (by omega)]
      show sF D 4 (fun _ => 0) 1 m = D 1 m
      rw [sF_ne (by decide)]
    · show sF D 4 (fun _ => 0) k = D k
      rw [sF_ne b]
  · rintro j ⟨T, x⟩ j0 j1 ⟨k1, k2⟩
    have e1 : (nP1 K d j (T, x)).1 1 = u1 T 1 (8 * d + j) (K 2 j) 1 := by
      unfold nP1
      split
      · dsimp only
        rw [s1_o (by decide), u1_o (by decide)]
      · rfl
    refine ⟨fun m => ?_, fun k a b c => ?_⟩
    · rw [e1]
      simp only [u1_r, if_true]
      have k1m := k1 m
      dsimp only at k1m
      rw [k1m]
      by_cases e2 : m = 8 * d + j
      · subst e2
        rw [if_pos rfl, if_pos (by omega)]
        congr 1
        omega
      · rw [if_neg e2]
        by_cases e3 : 8 * d ≤ m ∧ m < 8 * d + j
        · rw [if_pos e3, if_pos (by omega)]
        · rw [if_neg e3, if_neg (by omega)]
    · have k2k := k2 k a b c
      unfold nP1
      split
      · dsimp only
        rw [s1_o c, u1_o b, u1_o a]
        exact k2k
      · dsimp only
        rw [u1_o a]
        exact k2k
theorem kNoteP_r {G K D : oV} {d : Int} (h1 : 0 ≤ G 1 0) : (∀ m, kNoteP G K d D 1 m = if 8 * d ≤ m ∧ m < 8 * d + G 1 0 then K 2 (m - 8 * d) else D 1 m) ∧ ∀ k : Nat, k ≠ 1 → k ≠ 4 → k ≠ 6 → k ≠ 10 → k ≠ 11 → kNoteP G K d D k = D k := by
  have key := nPl_1 (G := G) (K := K) (D := D) (d := d) h1
  unfold kNoteP
  refine ⟨fun m => ?_, fun k a b c e f => ?_⟩
  · rw [s1_o (by decide), u1_o (by decide)]
    exact key.1 m
  · rw [s1_o e, u1_o c]
    exact key.2 k a b f
theorem nQ1_r {K D : oV} {d p x : Int} : (nQ1 K d p (D, x)).1 1 = D 1 ∧ (nQ1 K d p (D, x)).1 2 = u1 D 2 (7 * d + p) (K 4 p) 2 ∧ (nQ1 K d p (D, x)).1 3 = u1 D 3 (7 * d + p) (K 6 p) 3 ∧ ∀ k : Nat, k ≠ 2 → k ≠ 3 → k ≠ 7 → k ≠ 8 → k ≠ 12 → (nQ1 K d p (D, x)).1 k = D k := by
  unfold nQ1
  dsimp only
  generalize hD1 : u1 (u1 D 2 (7 * d + p) (K 4 p)) 3 (7 * d + p) (K 6 p) = D1
  have b1 : D1 1 = D 1 := by rw [← hD1, u1_o (by decide), u1_o (by decide)]
  have b2 : D1 2 = u1 D 2 (7 * d + p) (K 4 p) 2 := by rw [← hD1, u1_o (by decide)]
  have b3 : D1 3 = u1 D 3 (7 * d + p) (K 6 p) 3 := by
    rw [← hD1]
    funext m
    simp only [u1_r, if_true, Nat.reduceEqDiff, if_false]
  have b4 : ∀ k : Nat, k ≠ 2 → k ≠ 3 → D1 k = D k := fun k a b => by rw [← hD1, u1_o b, u1_o a]
  have c0 : ∀ D2 : oV, (∀ k : Nat, k ≠ 7 → k ≠ 8 → D2 k = D1 k) → (if K 4 p = 8 ∧ D2 12 0 < 0 then s1 D2 12 d else D2) 1 = D 1 ∧ (if K 4 p = 8 ∧ D2 12 0 < 0 then s1 D2 12 d else D2) 2 = u1 D 2 (7 * d + p) (K 4 p) 2 ∧ (if K 4 p = 8 ∧ D2 12 0 < 0 then s1 D2 12 d else D2) 3 = u1 D 3 (7 * d + p) (K 6 p) 3 ∧ ∀ k : Nat, k ≠ 2 → k ≠ 3 → k ≠ 7 → k ≠ 8 → k ≠ 12 → (if K 4 p = 8 ∧ D2 12 0 < 0 then s1 D2 12 d else D2) k = D k := by
    intro D2 h2
    split
    · exact ⟨by rw [s1_o (by decide), h2 1 (by decide) (by decide), b1], by rw [s1_o (by decide), h2 2 (by decide) (by decide), b2], by rw [s1_o (by decide), h2 3 (by decide) (by decide), b3], fun k a b c e f => by rw [s1_o f, h2 k c e, b4 k a b]⟩
    · exact ⟨by rw [h2 1 (by decide) (by decide), b1], by rw [h2 2 (by decide) (by decide), b2], by rw [h2 3 (by decide) (by decide), b3], fun k a b c e f => by rw [h2 k c e, b4 k a b]⟩
  refine c0 _ ?_
  intro k a b
  split
  · rw [u1_o a, u1_o b]
  · rfl
theorem nQl_1 {G K D : oV} {d : Int} (h1 : 0 ≤ G 4 0) : (∀ m, (nQl G K d D).1 2 m = if 7 * d ≤ m ∧ m < 7 * d + G 4 0 then K 4 (m - 7 * d) else D 2 m) ∧ (∀ m, (nQl G K d D).1 3 m = if 7 * d ≤ m ∧ m < 7 * d + G 4 0 then K 6 (m - 7 * d) else D 3 m) ∧ ∀ k : Nat, k ≠ 2 → k ≠ 3 → k ≠ 7 → k ≠ 8 → k ≠ 12 → (nQl G K d D).1 k = D k := by
  have key := it_inv (f := nQ1 K d) (n := (G 4 0).toNat) (s := (D, 0)) (fun j X => (∀ m, X.1 2 m = if 7 * d ≤ m ∧ m < 7 * d + j then K 4 (m - 7 * d) else D 2 m) ∧ (∀ m, X.1 3 m = if 7 * d ≤ m ∧ m < 7 * d + j then K 6 (m - 7 * d) else D 3 m) ∧ ∀ k : Nat, k ≠ 2 → k ≠ 3 → k ≠ 7 → k ≠ 8 → k ≠ 12 → X.1 k = D k) ?_ ?_
  · have e : (((G 4 0).toNat : Nat) : Int) = G 4 0 := by omega
    rw [e] at key
    exact key
  · exact ⟨fun m => by rw [if_neg (by omega)], fun m => by rw [if_neg (by omega)], fun k _ _ _ _ _ => rfl⟩
  · rintro j ⟨T, x⟩ j0 j1 ⟨k1, k2, k3⟩
    obtain ⟨q1, q2, q3, q4⟩ := nQ1_r (K := K) (D := T) (d := d) (p := j) (x := x)
    have aux : ∀ (f g : Int → Int) (m : Int), (if m = 7 * d + j then f j else if 7 * d ≤ m ∧ m < 7 * d + j then f (m - 7 * d) else g m) = if 7 * d ≤ m ∧ m < 7 * d + (j + 1) then f (m - 7 * d) else g m := fun f g m => by
      by_cases e2 : m = 7 * d + j
      · subst e2
        rw [if_pos rfl, if_pos (by omega)]
        congr 1
        omega
      · rw [if_neg e2]
        by_cases e3 : 7 * d ≤ m ∧ m < 7 * d + j
        · rw [if_pos e3, if_pos (by omega)]
        · rw [if_neg e3, if_neg (by omega)]
    refine ⟨fun m => ?_, fun m => ?_, fun k a b c e f => ?_⟩
    · rw [q2]
      have k1m := k1 m
      dsimp only at k1m
      simp only [u1_r, if_true]
      rw [k1m]
      exact aux (K 4) (D 2) m
    · rw [q3]
      have k1m := k2 m
      dsimp only at k1m
      simp only [u1_r, if_true]
      rw [k1m]
      exact aux (K 6) (D 3) m
    · rw [q4 k a b c e f]
      exact k3 k a b c e f
theorem kNoteQ_r {G K D : oV} {d : Int} (h1 : 0 ≤ G 4 0) : (∀ m, kNoteQ G K d D 2 m = if 7 * d ≤ m ∧ m < 7 * d + G 4 0 then K 4 (m - 7 * d) else D 2 m) ∧ (∀ m, kNoteQ G K d D 3 m = if 7 * d ≤ m ∧ m < 7 * d + G 4 0 then K 6 (m - 7 * d) else D 3 m) ∧ ∀ k : Nat, k ≠ 2 → k ≠ 3 → k ≠ 5 → k ≠ 7 → k ≠ 8 → k ≠ 9 → k ≠ 12 → kNoteQ G K d D k = D k := by
  obtain ⟨q1, q2, q3⟩ := nQl_1 (G := G) (K := K) (D := D) (d := d) h1
  unfold kNoteQ
  refine ⟨fun m => ?_, fun m => ?_, fun k a b c e f g h => ?_⟩
  · rw [s1_o (by decide), u1_o (by decide)]; exact q1 m
  · rw [s1_o (by decide), u1_o (by decide)]; exact q2 m
  · rw [s1_o g, u1_o c]; exact q3 k a b e f h
/-- the diary's evenings are the reference's -/
def DE (G D S : oV) (n : Int) : Prop := ∀ d, 0 ≤ d → d < n → (∀ k, 0 ≤ k → k < G 1 0 → D 1 (8 * d + k) = S 32 (8 * d + k)) ∧ (∀ p, 0 ≤ p → p < G 4 0 → D 2 (7 * d + p) = (if S 33 (7 * d + p) = 10 then -2 else S 33 (7 * d + p)) ∧ D 3 (7 * d + p) = S 34 (7 * d + p))
theorem DE_day {G K D S : oV} {v : Int → Int} {d : Int} (hG : GW G) (h : CK K S) (hi : DI G S d d) (hv : VE G v S) (hm : S 36 0 = -1) (hd : 0 ≤ d) (hd9 : d ≤ 29) (hde : DE G D S d) : DE G (kDay G v d (K, D)).2 (dayF G d S) (d + 1) := by
  have hp := hG.2.2.2.2.1
  have hpl := hG.2.1
  have d1 := DI_morn hG hd hi
  have c1 := CK_morn hG h hi hv hd hd9
  obtain ⟨⟨c2, d2, v2⟩, ue⟩ := CK_even hG c1 d1 (VE_fr hv Fr_morn)
  have d3 := day_3 (G := G) hm hd (by omega) hp.2
  show DE G (kNoteQ G (kEven G v d (kMorn G v d K)) d (kNoteP G (kEven G v d (kMorn G v d K)) d D)) (dayF G d S) (d + 1)
  generalize kEven G v d (kMorn G v d K) = K2 at *
  obtain ⟨q1, q2, q3⟩ := kNoteQ_r (G := G) (K := K2) (D := kNoteP G K2 d D) (d := d) (by omega)
  obtain ⟨r1, r2⟩ := kNoteP_r (G := G) (K := K2) (D := D) (d := d) (by omega)
  have e1 : ∀ m, kNoteQ G K2 d (kNoteP G K2 d D) 1 m = if 8 * d ≤ m ∧ m < 8 * d + G 1 0 then K2 2 (m - 8 * d) else D 1 m := fun m => by
    rw [q3 1 (by decide) (by decide) (by decide) (by decide) (by decide) (by decide) (by decide)]
    exact r1 m
  have r22 := r2 2 (by decide) (by decide) (by decide) (by decide) (by decide)
  have r23 := r2 3 (by decide) (by decide) (by decide) (by decide) (by decide)
  intro d' d0 d4
  by_cases e : d' = d
  · subst e
    refine ⟨fun k k0 k1 => ?_, fun p p0 p1 => ⟨?_, ?_⟩⟩
    · rw [e1, if_pos (by omega), d3.1 k k0 (by omega)]
      have : 8 * d' + k - 8 * d' = k := by omega
      rw [this]
      exact c2.2.1 k k0 (by omega)
    · rw [q1, if_pos (by omega), d3.2.1 p p0 (by omega)]
      have : 7 * d' + p - 7 * d' = p := by omega
      rw [this]
      exact (c2.2.2.1 p p0 (by omega)).2.1
    · rw [q2, if_pos (by omega), d3.2.2.1]
      have : 7 * d' + p - 7 * d' = p := by omega
      rw [this]
      exact ue p p0 p1
  · obtain ⟨h1, h2⟩ := hde d' d0 (by omega)
    refine ⟨fun k k0 k1 => ?_, fun p p0 p1 => ⟨?_, ?_⟩⟩
    · rw [e1, if_neg (by omega), d3.2.2.2.1 _ (by omega)]
      exact h1 k k0 k1
    · rw [q1, if_neg (by omega), r22, d3.2.2.2.2.1 _ (by omega)]
      exact (h2 p p0 p1).1
    · rw [q2, if_neg (by omega), r23, d3.2.2.2.2.2 _ (by omega)]
      exact (h2 p p0 p1).2
/-- all of the evenings behind n days -/
theorem DE_wr {G K D S : oV} {v : Int → Int} {g w n : Nat} (hG : GW G) (hvw : VW G (S 18)) (hm : S 36 0 = -1) (hv : VE G v S) (hn : n ≤ G 0 0) : (CK (kWr G v g w K D n).1 (daysF G S n) ∧ DI G (daysF G S n) n n ∧ VE G v (daysF G S n) ∧ daysF G S n 36 0 = -1) ∧ DE G (kWr G v g w K D n).2 (daysF G S n) n ∧ RG G (daysF G S n) n := by
  have h0 := hG.1
  refine it2_inv (f := kDay G v) (g := dayF G) (fun i X T => (CK X.1 T ∧ DI G T i i ∧ VE G v T ∧ T 36 0 = -1) ∧ DE G X.2 T i ∧ RG G T i) ⟨⟨CK_beg, DI_run0 hG hvw, VE_fr hv Fr_run0, by rw [Fr_run0 36 (by omega)]; exact hm⟩, fun d d0 d1 => by omega, fun d d0 d1 => by omega⟩ ?_
  rintro i ⟨x1, x2⟩ y i0 i1 ⟨⟨k1, k2, k3, k4⟩, k5, k6⟩
  exact ⟨⟨CK_day hG k1 k2 k3 k4 i0 (by omega), DI_mono (DI_day hG i0 (Or.inl k4) k2) (by omega), VE_fr k3 Fr_day, by rw [Fr_day 36 (by omega)]; exact k4⟩, DE_day hG k1 k2 k3 k4 i0 (by omega) k5, RG_day hG k6 k2 k4 i0⟩
