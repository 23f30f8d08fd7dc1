/-! WHO USES WHICH: the course's row of it; the beginning goes together -/
/-- the row of uses stays -/
def K6 (K T : oV) : Prop := T 6 = K 6
theorem K6_puts {G K : oV} {p : Int} : K6 K (kStand G K p) := by
  unfold kStand K6
  split
  · rw [u1_o (by omega), u1_o (by omega), u1_o (by omega)]
  · rw [u1_o (by omega)]
theorem K6_lift {K : oV} {p : Int} : K6 K (kLift K p) := by
  unfold kLift K6
  split
  · rw [u1_o (by omega)]
  · rfl
theorem K6_buy {G K : oV} {v : Int → Int} {p d : Int} : K6 K (kBuy G v K p d) := by
  unfold kBuy
  split
  · rfl
  · dsimp only
    unfold K6
    rw [u1_o (by omega), K6_puts, u1_o (by omega), u1_o (by omega), u1_o (by omega), u1_o (by omega), u1_o (by omega), kPickK_o (by omega), u1_o (by omega), s1_o (by omega)]
theorem K6_exch {K : oV} {x y : Int} : K6 K (kExch K x y) := by
  unfold kExch K6
  try dsimp only
  split <;> split <;> simp only [u1_o (show (6 : Nat) ≠ 4 by omega), u1_o (show (6 : Nat) ≠ 2 by omega)]
theorem K6_come {G K : oV} {v : Int → Int} {d p : Int} : K6 K (kCome G v d p K) := by
  unfold kCome kIn
  split
  · split
    · exact K6_buy
    · split
      · unfold K6
        rw [u1_o (by omega), K6_puts]
      · rfl
  · rfl
theorem K6_ren {G K : oV} {v : Int → Int} {d p : Int} : K6 K (kRen G v d p K) := by
  unfold kRen kRew
  split
  · split
    · unfold K6
      rw [K6_buy, u1_o (by omega), K6_lift, u1_o (by omega)]
    · rfl
  · rfl
theorem K6_mv {G K : oV} {d k : Int} : K6 K (kMv G d k K) := by
  unfold kMv
  split
  · exact K6_exch
  · rfl
theorem K6_mva {K : oV} {v : Int → Int} {d k : Int} : K6 K (kMva v d k K) := by
  unfold kMva
  split
  · exact K6_exch
  · rfl
theorem K6.wi {K T : oV} {f : Int → oV → oV} {n : Nat} (h : K6 K T) (hf : ∀ j U, K6 U (f j U)) : K6 K (it f n T) := by
  induction n with
  | zero => exact h
  | succ n ih => exact (hf _ _).trans ih
theorem K6_morn {G K : oV} {v : Int → Int} {d : Int} : K6 K (kMorn G v d K) := K6.wi (K6.wi (K6.wi (K6.wi rfl fun _ _ => K6_come) fun _ _ => K6_ren) fun _ _ => K6_mv) fun _ _ => K6_mva
theorem K6_go {G K : oV} {d p : Int} : K6 K (kGo G d p K) := by
  unfold kGo
  split
  · unfold K6
    rw [u1_o (by omega), K6_lift]
  · rfl
theorem K6_night {G K : oV} {d : Int} : K6 K (kNight G d K) := K6.wi rfl fun _ _ => K6_go
theorem kEv_6 {G K : oV} {v : Int → Int} {d p m : Int} : kEv G v d p K 6 m = if m = p then (if hereB G p d = true then kChos G v K p else -2) else K 6 m := by
  unfold kEv
  try dsimp only
  generalize (if hereB G p d = true then kChos G v K p else -2) = x
  have h1 : u1 K 6 p x 6 m = if m = p then x else K 6 m := by simp only [u1_r, if_true]
  have h2 : ∀ y z, u1 (u1 K 6 p x) 13 y z 6 m = if m = p then x else K 6 m := fun y z => by rw [u1_o (by omega)]; exact h1
  split
  · split
    · rw [K6_puts, u1_o (by omega)]; exact h2 _ _
    · exact h2 _ _
  · exact h1
theorem mess_34 {G S : oV} {p : Int} : messF G S p 34 = S 34 := by funext m; simp only [messF_r, Nat.reduceEqDiff, if_false]
theorem evF_34 {G S : oV} {d p m : Int} : evF G d p S 34 m = if m = 7 * d + p then (if hereB G p d = true then useF G S p else -2) else S 34 m := by
  unfold evF
  try dsimp only
  have hfr : Fr S (u1 S 34 (7 * d + p) (-2)) := Fr.rf.wu (by omega) (by omega)
  have hus : useF G (u1 S 34 (7 * d + p) (-2)) p = useF G S p := by
    unfold useF
    simp only [kindF_fr hfr, u1_r, Nat.reduceEqDiff, if_false]
  split
  · rw [brAtF_eq, hus]
    have e : ∀ y z, u1 (u1 (u1 S 34 (7 * d + p) (-2)) 34 (7 * d + p) (useF G S p)) 27 y z 34 m = if m = 7 * d + p then useF G S p else S 34 m := fun y z => by
      rw [u1_o (by omega)]
      simp only [u1_r, if_true]
      split <;> rfl
    split
    · exact e _ _
    · rw [mess_34]; exact e _ _
  · simp only [u1_r, if_true]
/-- who uses which, of the first n people on a day -/
def UE (K S : oV) (d n : Int) : Prop := ∀ p, 0 ≤ p → p < n → K 6 p = S 34 (7 * d + p)
theorem CKu_ev {G K S : oV} {v : Int → Int} {d : Int} {j : Nat} (hG : GW G) (h : CK K S) (hi : DI G S d (d + 1)) (hv : VE G v S) (hj : j ≤ G 4 0) : (CK (it (kEv G v d) j K) (it (evF G d) j S) ∧ DI G (it (evF G d) j S) d (d + 1) ∧ VE G v (it (evF G d) j S)) ∧ UE (it (kEv G v d) j K) (it (evF G d) j S) d j := by
  refine it2_inv (fun i K S => (CK K S ∧ DI G S d (d + 1) ∧ VE G v S) ∧ UE K S d i) ⟨⟨h, hi, hv⟩, fun p p0 p1 => by omega⟩ ?_
  intro i x y i0 i1 ⟨k, hu⟩
  refine ⟨⟨CK_ev hG k.1 k.2.1 k.2.2 i0 (by omega), DI_ev1 hG k.2.1 i0 (by omega), VE_fr k.2.2 Fr_ev⟩, fun p p0 p1 => ?_⟩
  rw [kEv_6, evF_34]
  by_cases e : p = i
  · subst e
    rw [if_pos rfl, if_pos rfl]
    by_cases hh : hereB G p d = true
    · obtain ⟨i', i0', i1', i2, i3⟩ := hereB_iff.mp hh
      have ho := k.2.1.2.1 p p0 (by omega) ⟨i', i0', i1', by omega⟩
      rw [if_pos hh, if_pos hh, kChos_eq hG k.1 k.2.1.1 k.2.2 p0 (by omega) ho]
    · rw [if_neg hh, if_neg hh]
  · rw [if_neg e, if_neg (by omega)]
    exact hu p p0 (by omega)
theorem CK_beg {K S : oV} {g w : Nat} : CK (kBeg K g w) (run0 S) := by
  unfold CK kBeg
  simp only [run0_r, sF_at, sF_ne, s1, ne_eq, Nat.reduceEqDiff, not_false_eq_true, if_false, if_true]
  refine ⟨trivial, fun k k0 k8 => ?_, fun p p0 p7 => ?_, fun b b0 b1 => by omega⟩
  · rw [if_pos ⟨k0, k8⟩]
  · have q : 0 ≤ p ∧ p < 7 := ⟨p0, p7⟩
    simp only [if_pos q, if_true, and_self]
theorem more_no {S : oV} {d : Int} (h : S 36 0 = -1) (hd : 0 ≤ d) : moreF d S = S := by
  unfold moreF
  rw [if_neg (by omega)]
/-- a day of the class: the course, the diary -/
def kDay (G : oV) (v : Int → Int) (d : Int) (X : oV × oV) : oV × oV := (kNight G d (kEven G v d (kMorn G v d X.1)), kNoteQ G (kEven G v d (kMorn G v d X.1)) d (kNoteP G (kEven G v d (kMorn G v d X.1)) d X.2))
def dia0 (D : oV) : oV := s1 (s1 (s1 (s1 (sF (sF D 7 (fun _ => 0)) 8 (fun _ => 0)) 9 0) 10 0) 11 0) 12 (-2)
def kWr (G : oV) (v : Int → Int) (g w : Nat) (K D : oV) (n : Nat) : oV × oV := it (kDay G v) n (kBeg K g w, dia0 D)
theorem CK_even {G K S : oV} {v : Int → Int} {d : Int} (hG : GW G) (h : CK K S) (hi : DI G S d (d + 1)) (hv : VE G v S) : (CK (kEven G v d K) (evenF G d S) ∧ DI G (evenF G d S) d (d + 1) ∧ VE G v (evenF G d S)) ∧ UE (kEven G v d K) (evenF G d S) d (G 4 0) := by
  have hp := hG.2.2.2.2.1
  have := CKu_ev (j := (G 4 0).toNat) hG h hi hv (by omega)
  have e : (((G 4 0).toNat : Nat) : Int) = G 4 0 := by omega
  rw [e] at this
  exact this
theorem CK_note {K S : oV} {d : Int} (h : CK K S) : CK K (noteF d S) := it_inv (fun _ T => CK K T) (it_inv (fun _ T => CK K T) h fun j T j0 j1 k => CK_s1 k (by omega)) fun j T j0 j1 k => CK_s1 k (by omega)
/-- nobody beyond the people uses any -/
def KN (G K : oV) : Prop := ∀ p, G 4 0 ≤ p → p < 7 → K 6 p = -2
theorem KN_even {G K : oV} {v : Int → Int} {d : Int} (h : KN G K) (h4 : 0 ≤ G 4 0) : KN G (kEven G v d K) := by
  have key := it_inv (f := kEv G v d) (n := (G 4 0).toNat) (s := K) (fun _ T => KN G T) h fun j T j0 j1 k p p0 p7 => by
    rw [kEv_6, if_neg (by omega)]
    exact k p p0 p7
  exact key
theorem KN_6 {G K T : oV} (h : KN G K) (h6 : K6 K T) : KN G T := fun p p0 p7 => by rw [h6]; exact h p p0 p7
theorem dayF_eq {G S : oV} {d : Int} (hm : S 36 0 = -1) (hd : 0 ≤ d) : dayF G d S = nightF G d (noteF d (evenF G d (mornF G d S))) := by
  unfold dayF
  rw [more_no (by rw [Fr_morn 36 (by omega)]; exact hm) hd]
theorem CK_day {G K D S : oV} {v : Int → Int} {d : Int} (hG : GW G) (h : CK K S) (hi : DI G S d d) (hv : VE G v S) (hm : S 36 0 = -1) (hd : 0 ≤ d) (hd9 : d ≤ 29) : CK (kDay G v d (K, D)).1 (dayF G d S) := by
  have hp := hG.2.2.2.2.1
  have d1 := DI_morn hG hd hi
  have c1 := CK_morn hG h hi hv hd hd9
  have c2 := CK_even hG c1 d1 (VE_fr hv Fr_morn)
  rw [dayF_eq hm hd]
  exact (CKs_go (j := (G 4 0).toNat) hG (CK_note c2.1.1) (DI_note c2.1.2.1) (by omega)).1
/-- the course and the reference's fields behind n days -/
theorem CK_wr {G K D S : oV} {v : Int → Int} {g w n : Nat} (hG : GW G) (hvw : VW G (S 18)) (hm : S 36 0 = -1) (hv : VE G v S) (hn : n ≤ G 0 0) : (CK (kWr G v g w K D n).1 (daysF G S n) ∧ DI G (daysF G S n) n n ∧ VE G v (daysF G S n) ∧ daysF G S n 36 0 = -1) ∧ KN G (kWr G v g w K D n).1 := by
  have h0 := hG.1
  refine it2_inv (f := kDay G v) (g := dayF G) (fun i X T => (CK X.1 T ∧ DI G T i i ∧ VE G v T ∧ T 36 0 = -1) ∧ KN G X.1) ⟨⟨CK_beg, DI_run0 hG hvw, VE_fr hv Fr_run0, by rw [Fr_run0 36 (by omega)]; exact hm⟩, fun p p0 p7 => ?_⟩ ?_
  · show kBeg K g w 6 p = -2
    unfold kBeg
    rw [sF_at]
  · rintro i ⟨x1, x2⟩ y i0 i1 ⟨⟨k1, k2, k3, k4⟩, k5⟩
    refine ⟨⟨CK_day hG k1 k2 k3 k4 i0 (by omega), DI_mono (DI_day hG i0 (Or.inl k4) k2) (by omega), VE_fr k3 Fr_day, by rw [Fr_day 36 (by omega)]; exact k4⟩, ?_⟩
    have hp := hG.2.2.2.2.1
    exact KN_6 (KN_even (KN_6 k5 K6_morn) (by omega)) K6_night
