/-! EXPLANATIONS: a run with one more move -/
def OT (S T : oV) : Prop := S 35 0 ≤ T 35 0 ∧ ∀ b, 0 ≤ b → b < S 35 0 → T 23 b = S 23 b ∧ T 24 b = S 24 b ∧ T 25 b = S 25 b
theorem OT.rf {S : oV} : OT S S := ⟨Int.le_refl _, fun _ _ _ => ⟨rfl, rfl, rfl⟩⟩
theorem OT.tr {S T U : oV} (a : OT S T) (b : OT T U) : OT S U := ⟨Int.le_trans a.1 b.1, fun x x0 x1 => by
  have q1 := b.2 x x0 (by have := a.1; omega)
  have q2 := a.2 x x0 x1
  exact ⟨q1.1.trans q2.1, q1.2.1.trans q2.2.1, q1.2.2.trans q2.2.2⟩⟩
theorem OT.ext {S T : oV} (h23 : T 23 = S 23) (h24 : T 24 = S 24) (h25 : T 25 = S 25) (h35 : T 35 = S 35) : OT S T := ⟨by rw [h35]; exact Int.le_refl _, fun b _ _ => ⟨by rw [h23], by rw [h24], by rw [h25]⟩⟩
theorem OT_buys {G S : oV} {p d : Int} : OT S (buysF G S p d) := by
  rw [buysF_eq]
  unfold OT
  simp only [putsF_r, buy0_r, Nat.reduceEqDiff, if_false, if_true]
  refine ⟨by omega, fun b b0 b1 => ?_⟩
  rw [if_neg (by omega), if_neg (by omega), if_neg (by omega)]
  exact ⟨rfl, rfl, rfl⟩
theorem OT_puts {G S : oV} {p : Int} : OT S (putsF G S p) := by
  refine OT.ext ?_ ?_ ?_ ?_ <;> funext m <;> simp only [putsF_r, Nat.reduceEqDiff, if_false]
theorem OT_exch {S : oV} {a b : Int} : OT S (exchF S a b) := by
  refine OT.ext ?_ ?_ ?_ ?_ <;> funext m <;> simp only [exchF_r, Nat.reduceEqDiff, if_false]
theorem OT_thr {S : oV} {p d : Int} : OT S (thrF S p d) := by
  refine OT.ext ?_ ?_ ?_ ?_ <;> funext m <;> simp only [thrF_r, Nat.reduceEqDiff, if_false]
theorem OT_come {G S : oV} {d p : Int} : OT S (comeF G d p S) := by
  unfold comeF
  split
  · split
    · exact OT_buys
    · split
      · exact OT_puts
      · exact OT.rf
  · exact OT.rf
theorem OT_ren {G S : oV} {d p : Int} : OT S (renF G d p S) := by
  unfold renF
  split
  · exact OT_thr.tr OT_buys
  · exact OT.rf
theorem OT_mv {G S : oV} {d k : Int} : OT S (mvF G d k S) := by
  unfold mvF
  split
  · exact OT_exch
  · exact OT.rf
theorem OT_mva {S : oV} {d k : Int} : OT S (mvaF d k S) := by
  unfold mvaF
  split
  · exact OT_exch
  · exact OT.rf
theorem OT_more {S : oV} {d : Int} : OT S (moreF d S) := by
  unfold moreF
  split
  · exact OT_exch
  · exact OT.rf
theorem OT.wi {S T : oV} {f : Int → oV → oV} {n : Nat} (h : OT S T) (hf : ∀ j U, OT U (f j U)) : OT S (it f n T) := by
  induction n with
  | zero => exact h
  | succ n ih => exact ih.tr (hf _ _)
theorem OT_morn {G S : oV} {d : Int} : OT S (mornF G d S) := OT.wi (OT.wi (OT.wi (OT.wi OT.rf fun _ _ => OT_come) fun _ _ => OT_ren) fun _ _ => OT_mv) fun _ _ => OT_mva
theorem ev_25 {G S : oV} {d p : Int} : evF G d p S 25 = S 25 := by
  unfold evF
  try dsimp only
  split
  · rw [brAtF_eq]
    split
    · rw [u1_o (by omega), u1_o (by omega), u1_o (by omega)]
    · funext m
      simp only [messF_r, Nat.reduceEqDiff, if_false]
      rw [u1_o (by omega), u1_o (by omega), u1_o (by omega)]
  · rw [u1_o (by omega)]
def E4 (S T : oV) : Prop := E3 S T ∧ T 25 = S 25
theorem E4.ot {S T : oV} (h : E4 S T) : OT S T := OT.ext h.1.1 h.1.2.1 h.2 h.1.2.2
theorem E4_even {G S : oV} {d : Int} : E4 S (evenF G d S) := ⟨E3_even, it_inv (f := evF G d) (fun _ T => T 25 = S 25) rfl fun j T _ _ k => ev_25.trans k⟩
theorem E4_note {S : oV} {d : Int} : E4 S (noteF d S) := ⟨E3_note, by funext m; simp only [noteF_r, Nat.reduceEqDiff, if_false]⟩
theorem E4_night {G S : oV} {d : Int} : E4 S (nightF G d S) := ⟨E3_night, it_inv (f := goF G d) (fun _ T => T 25 = S 25) rfl fun j T _ _ k => by
  have e : goF G d j T 25 = T 25 := by
    funext m
    simp only [goF_r, Nat.reduceEqDiff, if_false]
    split <;> rfl
  exact e.trans k⟩
theorem E4.tr {S T U : oV} (a : E4 S T) (b : E4 T U) : E4 S U := ⟨⟨b.1.1.trans a.1.1, b.1.2.1.trans a.1.2.1, b.1.2.2.trans a.1.2.2⟩, b.2.trans a.2⟩
/-- a day up to its evening -/
def mX (G : oV) (d : Int) (S : oV) : oV := moreF d (mornF G d S)
def eX (G : oV) (d : Int) (S : oV) : oV := evenF G d (mX G d S)
theorem dayX {G S : oV} {d : Int} : dayF G d S = nightF G d (noteF d (eX G d S)) := rfl
theorem E4_dx {G S : oV} {d : Int} : E4 (eX G d S) (dayF G d S) := E4_note.tr E4_night
theorem OT_mX {G S : oV} {d : Int} : OT S (mX G d S) := OT_morn.tr OT_more
theorem OT_eX {G S : oV} {d : Int} : OT S (eX G d S) := OT_mX.tr E4_even.ot
theorem OT_dx {G S : oV} {d : Int} : OT S (dayF G d S) := OT_eX.tr E4_dx.ot
theorem F3_more {S : oV} {d : Int} : F3 S (moreF d S) := by
  unfold moreF
  split
  · exact F3_exch
  · exact F3.rf
theorem day_3x {G S : oV} {d : Int} (h4 : 0 ≤ G 4 0) (h47 : G 4 0 ≤ 7) : (∀ k, 0 ≤ k → k < 8 → dayF G d S 32 (8 * d + k) = eX G d S 31 k) ∧ (∀ m, dayF G d S 34 m = eX G d S 34 m) ∧ (∀ m, m < 8 * d ∨ 8 * d + 8 ≤ m → dayF G d S 32 m = S 32 m) ∧ (∀ m, m < 7 * d ∨ 7 * d + 7 ≤ m → dayF G d S 34 m = S 34 m) := by
  rw [dayX]
  have f := F3_night (G := G) (S := noteF d (eX G d S)) (d := d)
  have e32 := even_32 (G := G) (S := mX G d S) (d := d)
  have fm : F3 S (mX G d S) := F3_morn.tr F3_more
  refine ⟨fun k k0 k8 => ?_, fun m => ?_, fun m h => ?_, fun m h => ?_⟩
  · rw [f.1, noteF_r, if_neg (by decide), if_pos rfl, if_pos (by omega)]
    congr 1
    omega
  · rw [f.2.2, noteF_r, if_neg (by decide), if_neg (by decide)]
  · rw [f.1, noteF_r, if_neg (by decide), if_pos rfl, if_neg (by omega)]
    show evenF G d (mX G d S) 32 m = S 32 m
    rw [e32.1, fm.1]
  · rw [f.2.2, noteF_r, if_neg (by decide), if_neg (by decide)]
    show evenF G d (mX G d S) 34 m = S 34 m
    rw [even_34 h4 (by omega), fm.2.2]
theorem DI_mX {G S : oV} {d : Int} (hG : GW G) (hd : 0 ≤ d) (hm : MW G S) (hi : DI G S d d) : DI G (mX G d S) d (d + 1) := DI_more hG hd (DI_morn hG hd hi) (MW_fr hm Fr_morn)
theorem DI_eX {G S : oV} {d : Int} (hG : GW G) (hd : 0 ≤ d) (hm : MW G S) (hi : DI G S d d) : DI G (eX G d S) d (d + 1) := DI_even hG (DI_mX hG hd hm hi)
theorem RG_dx {G S : oV} {d : Int} (hG : GW G) (h : RG G S d) (hi : DI G S d d) (hm : MW G S) (hd : 0 ≤ d) : RG G (dayF G d S) (d + 1) := by
  have hp := hG.2.2.2.2.1
  have d1 := DI_mX hG hd hm hi
  have d2 := DI_eX hG hd hm hi
  have d3 := day_3x (G := G) (S := S) (d := d) (by omega) hp.2
  have e3 := (E4_dx (G := G) (S := S) (d := d)).1
  have os := OT_dx (G := G) (S := S) (d := d)
  have er := ev_rng hG d1
  intro d' d0 d4
  by_cases e : d' = d
  · subst e
    refine ⟨fun k k0 k8 => ?_, fun p p0 p1 => ?_⟩
    · rw [d3.1 k k0 k8, e3.2.2]
      have := d2.1.1.2.1 k k0 k8
      omega
    · rw [d3.2.1, e3.2.2]
      exact er p p0 p1
  · obtain ⟨h1, h2⟩ := h d' d0 (by omega)
    refine ⟨fun k k0 k8 => ?_, fun p p0 p1 => ?_⟩
    · rw [d3.2.2.1 _ (by omega)]
      have := h1 k k0 k8
      have := os.1
      omega
    · rw [d3.2.2.2 _ (by omega)]
      have := h2 p p0 p1
      have := os.1
      omega
/-- the colours that stand there -/
def colS (S : oV) (k : Int) : Int := if S 31 k = -2 then -2 else S 24 (S 31 k)
/-- what is put by of the evenings of a run with one more move -/
theorem col_run {G T : oV} (hG : GW G) (hv : VW G (T 18)) (hm : MW G T) : ∀ {n : Nat}, (n : Int) ≤ G 0 0 → RG G (daysF G T n) n ∧ ∀ j k : Int, 0 ≤ j → j < n → 0 ≤ k → k < 8 → colT (daysF G T n) j k = colS (eX G j (daysF G T j.toNat)) k
  | 0, _ => ⟨fun d d0 d1 => by omega, fun j k j0 j1 => by omega⟩
  | n + 1, hn => by
    have hp := hG.2.2.2.2.1
    obtain ⟨ih1, ih2⟩ := col_run hG hv hm (n := n) (by omega)
    have hi := DI_days (n := n) hG hv hm
    have hm' : MW G (daysF G T n) := MW_fr hm Fr_days
    have e : daysF G T (n + 1) = dayF G n (daysF G T n) := rfl
    rw [e]
    refine ⟨RG_dx hG ih1 hi hm' (by omega), fun j k j0 j1 k0 k1 => ?_⟩
    have d3 := day_3x (G := G) (S := daysF G T n) (d := (n : Int)) (by omega) hp.2
    by_cases ej : j = n
    · subst ej
      have : ((n : Int)).toNat = n := by omega
      rw [this]
      unfold colT colS
      rw [d3.1 k k0 k1, (E4_dx (G := G) (S := daysF G T n) (d := (n : Int))).1.2.1]
    · rw [← ih2 j k j0 (by omega) k0 k1]
      unfold colT
      rw [d3.2.2.1 _ (by omega)]
      rcases (ih1 j j0 (by omega)).1 k k0 k1 with q | ⟨q0, q1, -⟩
      · rw [if_pos q, if_pos q]
      · rw [if_neg (by omega), if_neg (by omega), ((OT_dx (G := G) (S := daysF G T n) (d := (n : Int))).2 _ q0 q1).2.1]
/-- an evening is as it was seen -/
def rgt (G : oV) (f : Int → Int) (j : Int) : Bool := !(anyB (G 6 0).toNat (fun s => decide (G 22 s = j) && anyB (G 1 0).toNat (fun k => decide (¬ f k = G 23 (8 * s + k)))))
theorem rgt_iff {G : oV} {f : Int → Int} {j : Int} : rgt G f j = true ↔ ∀ s k : Int, 0 ≤ s → s < G 6 0 → G 22 s = j → 0 ≤ k → k < G 1 0 → f k = G 23 (8 * s + k) := by
  unfold rgt
  rw [Bool.not_eq_true', ← Bool.not_eq_true, anyB_iff]
  constructor
  · intro h s k s0 s1 hs k0 k1
    by_cases e : f k = G 23 (8 * s + k)
    · exact e
    · exact absurd ⟨s, s0, by omega, by rw [Bool.and_eq_true, anyB_iff]; exact ⟨decide_eq_true hs, k, k0, by omega, decide_eq_true e⟩⟩ h
  · rintro h ⟨s, s0, s1, hs⟩
    rw [Bool.and_eq_true, anyB_iff] at hs
    obtain ⟨h1, k, k0, k1, h2⟩ := hs
    exact of_decide_eq_true h2 (h s k s0 (by omega) (of_decide_eq_true h1) k0 (by omega))
theorem rgt_cg {G : oV} {f f' : Int → Int} {j : Int} (h : ∀ k : Int, 0 ≤ k → k < G 1 0 → f k = f' k) : rgt G f j = rgt G f' j := by
  apply Bool.eq_iff_iff.mpr
  rw [rgt_iff, rgt_iff]
  constructor
  · intro q s k s0 s1 hs k0 k1
    rw [← h k k0 k1]
    exact q s k s0 s1 hs k0 k1
  · intro q s k s0 s1 hs k0 k1
    rw [h k k0 k1]
    exact q s k s0 s1 hs k0 k1
theorem wPl_iff {G R : oV} {s : Int} : wPl G R s = -2 ↔ ∀ k : Int, 0 ≤ k → k < G 1 0 → colT R (G 22 s) k = G 23 (8 * s + k) := by
  unfold wPl
  constructor
  · intro h k k0 k1
    rcases fst1_spec (fun k => decide (¬ colT R (G 22 s) k = G 23 (8 * s + k))) (-2) (G 1 0).toNat 0 with ⟨q, q0, q1, q2, -⟩ | ⟨-, q⟩
    · omega
    · have := of_decide_eq_false (q k k0 (by omega))
      exact Classical.not_not.mp this
  · intro h
    exact fst1_no fun k k0 k1 => decide_eq_false fun q => q (h k k0 (by omega))
theorem fWr_iff {G R : oV} : fWr G R = -2 ↔ ∀ s k : Int, 0 ≤ s → s < G 6 0 → 0 ≤ k → k < G 1 0 → colT R (G 22 s) k = G 23 (8 * s + k) := by
  unfold fWr
  constructor
  · intro h s k s0 s1 k0 k1
    rcases fst1_spec (fun s => decide (¬ wPl G R s = -2)) (-2) (G 6 0).toNat 0 with ⟨q, q0, q1, q2, -⟩ | ⟨-, q⟩
    · omega
    · exact wPl_iff.mp (Classical.not_not.mp (of_decide_eq_false (q s s0 (by omega)))) k k0 k1
  · intro h
    exact fst1_no fun s s0 s1 => decide_eq_false fun q => q (wPl_iff.mpr fun k k0 k1 => h s k s0 (by omega) k0 k1)
theorem fWr_rgt {G T : oV} (hG : GW G) (hv : VW G (T 18)) (hm : MW G T) : fWr G (runF G T) = -2 ↔ ∀ j : Int, 0 ≤ j → j < G 0 0 → rgt G (colS (eX G j (daysF G T j.toNat))) j = true := by
  have y0 := hG.1
  have y1 := hG.2.1
  have hc := (col_run (n := (G 0 0).toNat) hG hv hm (by omega)).2
  rw [← runF_eq] at hc
  rw [fWr_iff]
  constructor
  · intro h j j0 j1
    rw [rgt_iff]
    intro s k s0 s1 hs k0 k1
    rw [← hc j k j0 (by omega) k0 (by omega), ← hs]
    exact h s k s0 s1 k0 k1
  · intro h s k s0 s1 k0 k1
    have hsd := hG.2.2.2.2.2.2.2.2.2.2.2.2.1 s s0 s1
    rw [hc _ k hsd.1 (by omega) k0 (by omega)]
    exact rgt_iff.mp (h _ hsd.1 hsd.2) s k s0 s1 rfl k0 k1
/-! the class's course with one more move -/
def kMd (G : oV) (v : Int → Int) (d a b j : Int) (K : oV) : oV := if j = d then kExch (kMorn G v j K) a b else kMorn G v j K
def kMr (G : oV) (v : Int → Int) (d a b : Int) (n : Nat) : oV := it (fun j K => kNight G j (kEven G v j (kMd G v d a b j K))) n (kBeg (fun _ _ => 0) 0 0)
def MM (G : oV) (d a b : Int) : Prop := d = -1 ∨ ((0 ≤ a ∧ a < G 1 0) ∧ (0 ≤ b ∧ b < G 1 0) ∧ a ≠ b)
def MTv (T : oV) (d a b : Int) : Prop := T 36 0 = d ∧ T 37 0 = a ∧ T 38 0 = b
theorem MW_of {G T : oV} {d a b : Int} (h : MM G d a b) (ht : MTv T d a b) : MW G T := by
  obtain ⟨rfl, rfl, rfl⟩ := ht
  exact h
theorem MTv_fr {S T : oV} {d a b : Int} (h : MTv S d a b) (hf : Fr S T) : MTv T d a b := by
  unfold MTv
  rw [hf 36 (by omega), hf 37 (by omega), hf 38 (by omega)]
  exact h
theorem CK_mX {G K S : oV} {v : Int → Int} {d a b j : Int} (hG : GW G) (h : CK K S) (hi : DI G S j j) (hv : VE G v S) (hM : MM G d a b) (hT : MTv S d a b) (hj : 0 ≤ j) (hj9 : j ≤ 29) : CK (kMd G v d a b j K) (mX G j S) := by
  have c1 := CK_morn hG h hi hv hj hj9
  have d1 := DI_morn hG hj hi
  obtain ⟨t1, t2, t3⟩ := MTv_fr hT (Fr_morn (G := G) (d := j))
  unfold kMd mX moreF
  rw [t1, t2, t3]
  by_cases e : j = d
  · rw [if_pos e, if_pos e.symm]
    rcases hM with hM | ⟨h1, h2, h3⟩
    · omega
    · exact CK_exch hG c1 d1.1 h1.1 h1.2 h2.1 h2.2 h3
  · rw [if_neg e, if_neg (fun q => e q.symm)]
    exact c1
theorem CK_dx {G K S : oV} {v : Int → Int} {d a b j : Int} (hG : GW G) (h : CK K (mX G j S)) (hi : DI G S j j) (hv : VE G v S) (hM : MM G d a b) (hT : MTv S d a b) (hj : 0 ≤ j) : CK (kEven G v j K) (eX G j S) ∧ CK (kNight G j (kEven G v j K)) (dayF G j S) := by
  have hp := hG.2.2.2.2.1
  have d1 := DI_mX hG hj (MW_of hM hT) hi
  have c2 := CK_even hG h d1 (VE_fr (VE_fr hv Fr_morn) Fr_more)
  refine ⟨c2.1.1, ?_⟩
  rw [dayX]
  exact (CKs_go (j := (G 4 0).toNat) hG (CK_note c2.1.1) (DI_note c2.1.2.1) (by omega)).1
theorem CK_kMr {G T : oV} {v : Int → Int} {d a b : Int} (hG : GW G) (hvw : VW G (T 18)) (hv : VE G v T) (hM : MM G d a b) (hT : MTv T d a b) : ∀ {n : Nat}, (n : Int) ≤ G 0 0 → CK (kMr G v d a b n) (daysF G T n)
  | 0, _ => CK_beg
  | n + 1, hn => by
    have y0 := hG.1
    have ih := CK_kMr hG hvw hv hM hT (n := n) (by omega)
    have hi := DI_days (n := n) hG hvw (MW_of hM hT)
    have hT' := MTv_fr hT (Fr_days (G := G) (n := n))
    have hv' := VE_fr hv (Fr_days (G := G) (n := n))
    have c1 := CK_mX hG ih hi hv' hM hT' (by omega) (by omega)
    exact (CK_dx hG c1 hi hv' hM hT' (by omega)).2
theorem kMr_no {G : oV} {v : Int → Int} {d a b d' a' b' : Int} {n : Nat} (h : ∀ j : Int, 0 ≤ j → j < n → j ≠ d ∧ j ≠ d') : kMr G v d a b n = kMr G v d' a' b' n := it_congr fun j j0 j1 K => by
  have := h j j0 j1
  unfold kMd
  rw [if_neg this.1, if_neg this.2]
theorem CK_tr {K K' S S' : oV} (h : CK K S) (h' : CK K' S) (h'' : CK K' S') : CK K S' := by
  obtain ⟨a1, a2, a3, a4⟩ := h
  obtain ⟨b1, b2, b3, b4⟩ := h'
  obtain ⟨c1, c2, c3, c4⟩ := h''
  have e35 : S' 35 0 = S 35 0 := by omega
  refine ⟨by omega, fun k k0 k1 => ?_, fun p p0 p1 => ?_, fun b q0 q1 => ?_⟩
  · rw [a2 k k0 k1, ← b2 k k0 k1, c2 k k0 k1]
  · have x1 := a3 p p0 p1
    have x2 := b3 p p0 p1
    have x3 := c3 p p0 p1
    refine ⟨?_, ?_, ?_⟩
    · rw [x1.1, ← x2.1, x3.1]
    · rw [x1.2.1, ← x2.2.1, x3.2.1]
    · rw [x1.2.2, ← x2.2.2, x3.2.2]
  · have x1 := a4 b q0 (by omega)
    have x2 := b4 b q0 (by omega)
    have x3 := c4 b q0 q1
    refine ⟨?_, ?_, ?_⟩
    · rw [x1.1, ← x2.1, x3.1]
    · rw [x1.2.1, ← x2.2.1, x3.2.1]
    · rw [x1.2.2, ← x2.2.2, x3.2.2]
theorem kTint_colS {K S : oV} {k : Int} (h : CK K S) (hs : S 31 k = -2 ∨ (0 ≤ S 31 k ∧ S 31 k < S 35 0)) (k0 : 0 ≤ k) (k8 : k < 8) : kTint K k = colS S k := by
  unfold kTint colS
  rw [h.2.1 k k0 k8]
  rcases hs with q | ⟨q0, q1⟩
  · rw [if_pos (by omega), if_pos q]
  · rw [if_neg (by omega), if_neg (by omega), (h.2.2.2 _ q0 q1).2.1]
/-- evenings of two runs that the class runs alike -/
theorem col_same {G T T' : oV} {v : Int → Int} {d a b d' a' b' j : Int} (hG : GW G) (hvw : VW G (T 18)) (hv : VE G v T) (hM : MM G d a b) (hT : MTv T d a b) (hvw' : VW G (T' 18)) (hv' : VE G v T') (hM' : MM G d' a' b') (hT' : MTv T' d' a' b') (hj : 0 ≤ j) (hj1 : j < G 0 0) (hs : (d = d' ∧ a = a' ∧ b = b') ∨ (∀ i : Int, 0 ≤ i → i ≤ j → i ≠ d ∧ i ≠ d')) {k : Int} (k0 : 0 ≤ k) (k8 : k < 8) : colS (eX G j (daysF G T j.toNat)) k = colS (eX G j (daysF G T' j.toNat)) k := by
  have y0 := hG.1
  have e : ((j.toNat : Nat) : Int) = j := by omega
  have key : ∀ {T : oV} {d a b : Int}, VW G (T 18) → VE G v T → MM G d a b → MTv T d a b → kTint (kEven G v j (kMd G v d a b j (kMr G v d a b j.toNat))) k = colS (eX G j (daysF G T j.toNat)) k := fun {T d a b} hvw hv hM hT => by
    have c0 := CK_kMr hG hvw hv hM hT (n := j.toNat) (by omega)
    have hi := DI_days (n := j.toNat) hG hvw (MW_of hM hT)
    rw [e] at hi
    have hT' := MTv_fr hT (Fr_days (G := G) (n := j.toNat))
    have hv' := VE_fr hv (Fr_days (G := G) (n := j.toNat))
    have c1 := CK_mX hG c0 hi hv' hM hT' hj (by omega)
    have c2 := (CK_dx hG c1 hi hv' hM hT' hj).1
    have d2 := DI_eX hG hj (MW_of hM hT') hi
    have := d2.1.1.2.1 k k0 k8
    exact kTint_colS c2 (by omega) k0 k8
  rw [← key hvw hv hM hT, ← key hvw' hv' hM' hT']
  rcases hs with ⟨rfl, rfl, rfl⟩ | hs
  · rfl
  · have h2 := hs j hj (Int.le_refl _)
    rw [kMr_no (d' := d') (a' := a') (b' := b') (fun i i0 i1 => hs i i0 (by omega))]
    unfold kMd
    rw [if_neg h2.1, if_neg h2.2]
theorem mS_VE {G : oV} {v : Int → Int} {d a b : Int} : VE G v (mS v d a b) := by
  unfold VE kindF habitF mS
  simp
theorem mS_MTv {v : Int → Int} {d a b : Int} : MTv (mS v d a b) d a b := ⟨rfl, rfl, rfl⟩
theorem okM_T {G T : oV} {v : Int → Int} {d a b : Int} (hG : GW G) (hvw : VW G (T 18)) (hv : VE G v T) (hvv : VW G v) (hM : MM G d a b) (hT : MTv T d a b) : okM G v d a b = decide (fWr G (runF G T) = -2) := by
  unfold okM
  congr 1
  apply propext
  rw [fWr_rgt hG hvv (MW_of hM mS_MTv), fWr_rgt hG hvw (MW_of hM hT)]
  have y1 := hG.2.1
  constructor
  · intro h j j0 j1
    rw [← h j j0 j1]
    exact rgt_cg fun k k0 k1 => col_same hG hvw hv hM hT hvv mS_VE hM mS_MTv j0 j1 (Or.inl ⟨rfl, rfl, rfl⟩) k0 (by omega)
  · intro h j j0 j1
    rw [← h j j0 j1]
    exact rgt_cg fun k k0 k1 => col_same hG hvv mS_VE hM mS_MTv hvw hv hM hT j0 j1 (Or.inl ⟨rfl, rfl, rfl⟩) k0 (by omega)
/-- days ahead of the one more move are as without it -/
theorem rgt_base {G : oV} {v : Int → Int} {d a b j : Int} (hG : GW G) (hvv : VW G v) (hM : MM G d a b) (hj : 0 ≤ j) (hj1 : j < G 0 0) (hjd : j < d) : rgt G (colS (eX G j (daysF G (mS v d a b) j.toNat))) j = rgt G (colS (eX G j (daysF G (mS v (-1) 0 0) j.toNat))) j := by
  have y1 := hG.2.1
  exact rgt_cg fun k k0 k1 => col_same hG hvv mS_VE hM mS_MTv hvv mS_VE (Or.inl rfl) mS_MTv hj hj1 (Or.inr fun i i0 i1 => by omega) k0 (by omega)
def bse (G : oV) (v : Int → Int) (j : Int) : Bool := rgt G (colS (eX G j (daysF G (mS v (-1) 0 0) j.toNat))) j
def xtr (G : oV) (v : Int → Int) (d a b j : Int) : Bool := rgt G (colS (eX G j (daysF G (mS v d a b) j.toNat))) j
theorem okM_iff {G : oV} {v : Int → Int} {d a b : Int} (hG : GW G) (hvv : VW G v) (hM : MM G d a b) (hd : 0 ≤ d) (hd1 : d < G 0 0) : okM G v d a b = true ↔ (∀ j, 0 ≤ j → j < d → bse G v j = true) ∧ ∀ j, d ≤ j → j < G 0 0 → xtr G v d a b j = true := by
  unfold okM
  rw [decide_eq_true_iff, fWr_rgt hG hvv (MW_of hM mS_MTv)]
  constructor
  · intro h
    refine ⟨fun j j0 j1 => ?_, fun j j0 j1 => h j (by omega) j1⟩
    rw [← h j j0 (by omega)]
    exact (rgt_base hG hvv hM j0 (by omega) j1).symm
  · rintro ⟨h1, h2⟩ j j0 j1
    by_cases e : j < d
    · rw [rgt_base hG hvv hM j0 j1 e]
      exact h1 j j0 e
    · exact h2 j (by omega) j1
/-- a code of a day and two places; whether it explains -/
def okX (G : oV) (v : Int → Int) (x : Int) : Bool := (decide (x % 8 < G 1 0) && decide (x / 8 % 8 < x % 8)) && okM G v (x / 64) (x / 8 % 8) (x % 8)
theorem okX_at {G : oV} {v : Int → Int} {d a b : Int} (ha : 0 ≤ a) (hab : a < b) (hb : b < G 1 0) (h8 : G 1 0 ≤ 8) : okX G v (64 * d + 8 * a + b) = okM G v d a b := by
  have e1 : (64 * d + 8 * a + b) % 8 = b := by omega
  have e2 : (64 * d + 8 * a + b) / 8 % 8 = a := by omega
  have e3 : (64 * d + 8 * a + b) / 64 = d := by omega
  unfold okX
  rw [e1, e2, e3, decide_eq_true hb, decide_eq_true hab]
  rfl
theorem okX_no {G : oV} {v : Int → Int} {x : Int} (h : ¬ (x % 8 < G 1 0 ∧ x / 8 % 8 < x % 8)) : okX G v x = false := by
  unfold okX
  rw [← Bool.decide_and, decide_eq_false h]
  rfl
theorem cnt_gap {P : Int → Bool} {n : Nat} : ∀ {k : Nat}, (∀ j : Int, n ≤ j → j < ((n + k : Nat) : Int) → P j = false) → cnt (n + k) P = cnt n P
  | 0, _ => rfl
  | k + 1, h => by
    show cnt (n + k) P + (if P ((n + k : Nat) : Int) = true then 1 else 0) = cnt n P
    rw [cnt_gap fun j j0 j1 => h j j0 (by omega), h _ (by omega) (by omega), if_neg (by decide)]
    omega
theorem cnt_gp {P : Int → Bool} {x y : Int} (hx : 0 ≤ x) (hxy : x ≤ y) (h : ∀ j : Int, x ≤ j → j < y → P j = false) : cnt y.toNat P = cnt x.toNat P := by
  obtain ⟨k, hk⟩ : ∃ k : Nat, y.toNat = x.toNat + k := ⟨y.toNat - x.toNat, by omega⟩
  rw [hk]
  exact cnt_gap fun j j0 j1 => h j (by omega) (by omega)
/-- the explanations found of codes below x -/
def XC (G : oV) (v : Int → Int) (E : oV) (x : Int) : Prop := E 2 0 = cnt x.toNat (okX G v) ∧ ∀ y, 0 ≤ y → y < x → okX G v y = true → E 1 (cnt y.toNat (okX G v)) = y
theorem XC_gap {G : oV} {v : Int → Int} {E : oV} {x y : Int} (h : XC G v E x) (hx : 0 ≤ x) (hxy : x ≤ y) (hn : ∀ j : Int, x ≤ j → j < y → okX G v j = false) : XC G v E y := by
  refine ⟨by rw [h.1, cnt_gp hx hxy hn], fun z z0 z1 hz => ?_⟩
  by_cases e : z < x
  · exact h.2 z z0 e hz
  · rw [hn z (by omega) z1] at hz
    cases hz
theorem vmx_dec : cnt 1920 (fun x => decide (x / 8 % 8 < x % 8)) = 840 := by decide +kernel
theorem cnt_le2 {P Q : Int → Bool} : ∀ {n : Nat}, (∀ j : Int, 0 ≤ j → j < n → P j = true → Q j = true) → cnt n P ≤ cnt n Q
  | 0, _ => Int.le_refl _
  | n + 1, h => by
    have ih := cnt_le2 (n := n) fun j j0 j1 => h j j0 (by omega)
    show cnt n P + (if P n = true then 1 else 0) ≤ cnt n Q + (if Q n = true then 1 else 0)
    by_cases e : P n = true
    · rw [if_pos e, if_pos (h n (by omega) (by omega) e)]
      omega
    · rw [if_neg e]
      split <;> omega
theorem cnt_inc {P : Int → Bool} {n : Nat} : ∀ {k : Nat}, cnt n P ≤ cnt (n + k) P
  | 0 => Int.le_refl _
  | k + 1 => by
    have ih := cnt_inc (P := P) (n := n) (k := k)
    show cnt n P ≤ cnt (n + k) P + (if P ((n + k : Nat) : Int) = true then 1 else 0)
    split <;> omega
theorem okX_840 {G : oV} {v : Int → Int} {x : Int} (hx : x ≤ 1920) : 0 ≤ cnt x.toNat (okX G v) ∧ cnt x.toNat (okX G v) ≤ 840 := by
  refine ⟨(cnt_le).1, ?_⟩
  have h1 := cnt_le2 (P := okX G v) (Q := fun x => decide (x / 8 % 8 < x % 8)) (n := x.toNat) fun j j0 j1 h => by
    unfold okX at h
    simp only [Bool.and_eq_true] at h
    exact h.1.2
  have h2 := cnt_inc (P := fun x => decide (x / 8 % 8 < x % 8)) (n := x.toNat) (k := 1920 - x.toNat)
  rw [show x.toNat + (1920 - x.toNat) = 1920 by omega, vmx_dec] at h2
  omega
/-- all found: the explanations, in their order -/
theorem XC_XP {G : oV} {v : Int → Int} {E : oV} (hG : GW G) (h : XC G v E (64 * G 0 0)) : XP G v E := by
  have y0 := hG.1
  have y1 := hG.2.1
  have hl := okX_840 (G := G) (v := v) (x := 64 * G 0 0) (by omega)
  have hw : ∀ i : Int, 0 ≤ i → i < E 2 0 → ∃ x, 0 ≤ x ∧ x < 64 * G 0 0 ∧ okX G v x = true ∧ cnt x.toNat (okX G v) = i ∧ E 1 i = x := fun i i0 i1 => by
    rw [h.1] at i1
    obtain ⟨x, x0, x1, x2, x3⟩ := cnt_sur (ok := okX G v) (n := (64 * G 0 0).toNat) (i := i.toNat) (by omega)
    rw [Int.toNat_of_nonneg i0] at x3
    refine ⟨x, x0, by omega, x2, x3, ?_⟩
    have := h.2 x x0 (by omega) x2
    rw [x3] at this
    exact this
  refine ⟨by rw [h.1]; exact hl, fun i i0 i1 => ?_, fun i j i0 i1 i2 => ?_, fun d a b d0 d1 a0 a1 b1 hok => ?_⟩
  · obtain ⟨x, x0, x1, x2, x3, x4⟩ := hw i i0 i1
    have x2' := x2
    unfold okX at x2'
    simp only [Bool.and_eq_true, decide_eq_true_eq] at x2'
    exact ⟨x / 64, x / 8 % 8, x % 8, by rw [x4]; omega, by omega, by omega, by omega, by omega, by omega, x2'.2⟩
  · obtain ⟨x, x0, x1, x2, x3, x4⟩ := hw i i0 (by omega)
    obtain ⟨y, y0, y1, y2, y3, y4⟩ := hw j (by omega) i2
    rw [x4, y4]
    by_cases e : x < y
    · exact e
    · exfalso
      by_cases e2 : x = y
      · rw [e2] at x3; omega
      · have := cnt_lt y0 y2 (n := x.toNat) (by omega)
        omega
  · have e := okX_at (G := G) (v := v) (d := d) a0 a1 b1 (by omega)
    have hx : okX G v (64 * d + 8 * a + b) = true := by rw [e]; exact hok
    have hlt := cnt_lt (i := 64 * d + 8 * a + b) (by omega) hx (n := (64 * G 0 0).toNat) (by omega)
    exact ⟨cnt (64 * d + 8 * a + b).toNat (okX G v), (cnt_le).1, by rw [h.1]; exact hlt, h.2 _ (by omega) (by omega) hx⟩
theorem XP_XC {G : oV} {v : Int → Int} {E : oV} (hG : GW G) (h : XP G v E) : XC G v E (64 * G 0 0) := by
  have y0 := hG.1
  have y1 := hG.2.1
  obtain ⟨h1, h2, h3, h4⟩ := h
  have key : ∀ n : Nat, (n : Int) ≤ 64 * G 0 0 → cnt n (okX G v) ≤ E 2 0 ∧ (∀ i, 0 ≤ i → i < cnt n (okX G v) → E 1 i < n) ∧ (∀ i, cnt n (okX G v) ≤ i → i < E 2 0 → n ≤ E 1 i) ∧ ∀ y : Int, 0 ≤ y → y < n → okX G v y = true → E 1 (cnt y.toNat (okX G v)) = y := fun n => by
    induction n with
    | zero =>
      intro _
      refine ⟨h1.1, fun i i0 i1 => ?_, fun i i0 i1 => ?_, fun y y0 y1 => by omega⟩
      · have i1 : i < 0 := i1
        omega
      · have i0 : 0 ≤ i := i0
        obtain ⟨d, a, b, e, q⟩ := h2 i i0 i1
        omega
    | succ n ih =>
      intro hn
      obtain ⟨k1, k2, k3, k4⟩ := ih (by omega)
      have hc0 := (cnt_le (n := n) (P := okX G v)).1
      have ec : cnt (n + 1) (okX G v) = cnt n (okX G v) + (if okX G v n = true then 1 else 0) := rfl
      by_cases hx : okX G v n = true
      · rw [if_pos hx] at ec
        have hx' := hx
        unfold okX at hx'
        simp only [Bool.and_eq_true, decide_eq_true_eq] at hx'
        obtain ⟨i, i0, i1, i2⟩ := h4 ((n : Int) / 64) ((n : Int) / 8 % 8) ((n : Int) % 8) (by omega) (by omega) (by omega) hx'.1.2 hx'.1.1 hx'.2
        have i2 : E 1 i = n := by rw [i2]; omega
        have hi : i = cnt n (okX G v) := by
          by_cases q : i < cnt n (okX G v)
          · have := k2 i i0 q
            omega
          · by_cases q2 : i = cnt n (okX G v)
            · exact q2
            · have a1 := k3 (cnt n (okX G v)) (Int.le_refl _) (by omega)
              have a2 := h3 (cnt n (okX G v)) i hc0 (by omega) i1
              omega
        refine ⟨by omega, fun j j0 j1 => ?_, fun j j0 j1 => ?_, fun y y0 y1 hy => ?_⟩
        · by_cases q : j = i
          · rw [q]; omega
          · have := k2 j j0 (by omega); omega
        · have := h3 i j i0 (by omega) j1
          omega
        · by_cases q : y = n
          · subst q
            have : ((n : Int)).toNat = n := by omega
            rw [this, ← hi]
            exact i2
          · exact k4 y y0 (by omega) hy
      · rw [if_neg hx] at ec
        refine ⟨by omega, fun j j0 j1 => ?_, fun j j0 j1 => ?_, fun y y0 y1 hy => ?_⟩
        · have := k2 j j0 (by omega); omega
        · have a1 := k3 j (by omega) j1
          by_cases q : E 1 j = n
          · exfalso
            obtain ⟨d, a, b, e, d0, d1, a0, a1', b1, hok⟩ := h2 j (by omega) j1
            have e2 := okX_at (G := G) (v := v) (d := d) a0 a1' b1 (by omega)
            rw [← e, q] at e2
            rw [e2] at hx
            exact hx hok
          · omega
        · by_cases q : y = n
          · subst q; exact absurd hy hx
          · exact k4 y y0 (by omega) hy
  have ek := key (64 * G 0 0).toNat (by omega)
  obtain ⟨k1, k2, k3, k4⟩ := ek
  refine ⟨?_, fun y y0 y1 hy => k4 y y0 (by omega) hy⟩
  by_cases q : E 2 0 = cnt (64 * G 0 0).toNat (okX G v)
  · exact q
  · exfalso
    have hc0 := (cnt_le (n := (64 * G 0 0).toNat) (P := okX G v)).1
    have a1 := k3 (cnt (64 * G 0 0).toNat (okX G v)) (Int.le_refl _) (by omega)
    obtain ⟨d, a, b, e, d0, d1, a0, a1', b1, hok⟩ := h2 _ hc0 (show cnt (64 * G 0 0).toNat (okX G v) < E 2 0 by omega)
    omega
