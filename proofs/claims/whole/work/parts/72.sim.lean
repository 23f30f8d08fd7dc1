/-! THE CLASS'S COURSE AND THE REFERENCE'S RUN GO TOGETHER -/
theorem it2_inv {α β : Type} {f : Int → α → α} {g : Int → β → β} (P : Int → α → β → Prop) {n : Nat} {s : α} {t : β} (h0 : P 0 s t) (hs : ∀ (j : Int) (x : α) (y : β), 0 ≤ j → j < n → P j x y → P (j + 1) (f j x) (g j y)) : P n (it f n s) (it g n t) := by
  have : ∀ m : Nat, m ≤ n → P m (it f m s) (it g m t) := by
    intro m
    induction m with
    | zero => intro _; exact h0
    | succ m ih =>
      intro hm
      have := hs m _ _ (by omega) (by omega) (ih (by omega))
      simpa [it] using this
  exact this n (Nat.le_refl n)
theorem fst1_congr {P Q : Int → Bool} {d : Int} : ∀ {n : Nat} {lo : Int}, (∀ j, lo ≤ j → j < lo + n → P j = Q j) → fst1 P d n lo = fst1 Q d n lo
  | 0, _, _ => rfl
  | n + 1, lo, h => by
    unfold fst1
    rw [h lo (by omega) (by omega)]
    split
    · rfl
    · exact fst1_congr fun j h1 h2 => h j (by omega) (by omega)
theorem cnt_congr {P Q : Int → Bool} : ∀ {n : Nat}, (∀ j : Int, 0 ≤ j → j < n → P j = Q j) → cnt n P = cnt n Q
  | 0, _ => rfl
  | n + 1, h => by
    unfold cnt
    rw [h n (by omega) (by omega), cnt_congr fun j h1 h2 => h j h1 (by omega)]
/-- what stands is a brush -/
def Sg (S : oV) : Prop := ∀ k, 0 ≤ k → k < 8 → S 31 k = -2 ∨ (0 ≤ S 31 k ∧ S 31 k < S 35 0)
theorem kFree_eq {G K S : oV} (h : CK K S) (hs : Sg S) (h1 : 0 ≤ G 1 0) (h8 : G 1 0 ≤ 8) : kFree G K = freeF G S := by
  refine fst1_congr fun j j0 j1 => ?_
  have e1 := h.2.1 j j0 (by omega)
  have e2 := hs j j0 (by omega)
  simp only [e1]
  by_cases e : S 31 j = -2
  · simp [e]
  · simp only [e, decide_false, decide_eq_false_iff_not]; omega
theorem kStand_r {G K : oV} {p m : Int} {j : Nat} : kStand G K p j m = if j = 4 then (if m = p then (if kFree G K < 8 then kFree G K else 8) else K 4 m) else if j = 2 then (if kFree G K < 8 ∧ m = kFree G K then K 3 p else K 2 m) else K j m := by
  unfold kStand
  by_cases h : kFree G K < 8
  · rw [if_pos h]
    simp only [u1_r]
    grind
  · rw [if_neg h]
    simp only [u1_r]
    grind
def kPut (G K : oV) (p : Int) : oV := u1 (kStand G K p) 5 p (kStand G K p 4 p)
theorem CK_puts {G K S : oV} {p : Int} (h : CK K S) (hs : Sg S) (h1 : 0 ≤ G 1 0) (h8 : G 1 0 ≤ 8) (hp : 0 ≤ p) (hp7 : p < 7) : CK (kPut G K p) (putsF G S p) := by
  have ef := kFree_eq (G := G) h hs h1 h8
  have hf : freeF G S ≤ 8 ∧ 0 ≤ freeF G S := by
    rcases freeF_spec (S := S) h1 h8 with ⟨e1, e2, -⟩ | ⟨e1, -⟩ <;> omega
  obtain ⟨a1, a2, a3, a4⟩ := h
  unfold CK kPut
  simp only [u1_r, kStand_r, putsF_r, ef, Nat.reduceEqDiff, if_false, if_true]
  generalize freeF G S = f at hf
  have e3 := a3 p hp hp7
  refine ⟨a1, ?_, ?_, a4⟩
  · intro k k0 k8
    have e1 := a2 k k0 k8
    clear a2 a3 a4
    grind
  · intro q q0 q7
    have e1 := a3 q q0 q7
    clear a2 a3 a4
    grind
theorem kTal_eq {G K S : oV} (hA : ∀ k, 0 ≤ k → k < 8 → K 2 k = S 31 k ∧ (S 31 k = -2 ∨ (0 ≤ S 31 k ∧ K 10 (S 31 k) = S 24 (S 31 k)))) (h1 : 0 ≤ G 1 0) (h8 : G 1 0 ≤ 8) : kTal G K = inGl G S := by
  funext x
  refine cnt_congr fun j j0 j1 => ?_
  obtain ⟨e1, e2⟩ := hA j j0 (by omega)
  simp only [e1]
  rcases e2 with e | ⟨e4, e3⟩
  · simp [e]
  · have e : ¬ S 31 j = -2 := by omega
    rw [e3]
    simp [e, e4]
theorem kPick_eq {G K S : oV} {v : Int → Int} {p : Int} (hA : ∀ k, 0 ≤ k → k < 8 → K 2 k = S 31 k ∧ (S 31 k = -2 ∨ (0 ≤ S 31 k ∧ K 10 (S 31 k) = S 24 (S 31 k)))) (h1 : 0 ≤ G 1 0) (h8 : G 1 0 ≤ 8) (hv : v (7 + p) = habitF S p) : kPick G v K p = chosF G S p := by
  unfold kPick chosF
  rw [kTal_eq hA h1 h8, hv]
/-- the course ahead of a put when one is bought -/
def kBuy0 (G : oV) (v : Int → Int) (K : oV) (p d : Int) : oV :=
  let b := K 8 0
  let K2 := u1 (s1 K 8 (b + 1)) 9 b p
  u1 (u1 (u1 (u1 (u1 (kPickK G v K2 p) 10 b (kPick G v K2 p)) 11 b d) 12 b (-2)) 13 b 0) 3 p b
theorem kBuy_eq {G K : oV} {v : Int → Int} {p d : Int} (h : K 8 0 < 70) : kBuy G v K p d = kPut G (kBuy0 G v K p d) p := by
  unfold kBuy
  rw [if_neg (by omega)]
  rfl
theorem kPickK_o {G K : oV} {v : Int → Int} {p : Int} {k : Nat} (h : k ≠ 7) : kPickK G v K p k = K k := by
  unfold kPickK
  split
  · rfl
  · rw [sF_ne h]
theorem kBuy0_r {G K : oV} {v : Int → Int} {p d m : Int} {j : Nat} (hj : j ≠ 7) : kBuy0 G v K p d j m = if j = 8 then K 8 0 + 1 else if j = 9 then (if m = K 8 0 then p else K 9 m) else if j = 10 then (if m = K 8 0 then kPick G v (u1 (s1 K 8 (K 8 0 + 1)) 9 (K 8 0) p) p else K 10 m) else if j = 11 then (if m = K 8 0 then d else K 11 m) else if j = 12 then (if m = K 8 0 then -2 else K 12 m) else if j = 13 then (if m = K 8 0 then 0 else K 13 m) else if j = 3 then (if m = p then K 8 0 else K 3 m) else K j m := by
  unfold kBuy0
  have e : ∀ k m, k ≠ 7 → kPickK G v (u1 (s1 K 8 (K 8 0 + 1)) 9 (K 8 0) p) p k m = u1 (s1 K 8 (K 8 0 + 1)) 9 (K 8 0) p k m := fun k m hk => by rw [kPickK_o hk]
  have e3 := e 3 m (by decide)
  have e10 := e 10 m (by decide)
  have e11 := e 11 m (by decide)
  have e12 := e 12 m (by decide)
  have e13 := e 13 m (by decide)
  have ej := e j m hj
  clear e
  simp only [u1_r, s1_r] at *
  grind (splits := 20)
/-- all but whose own one it is of one person -/
def CKp (K S : oV) (x : Int) : Prop := K 8 0 = S 35 0 ∧ (∀ k, 0 ≤ k → k < 8 → K 2 k = S 31 k) ∧ (∀ p, 0 ≤ p → p < 7 → (p ≠ x → K 3 p = S 28 p) ∧ K 4 p = (if S 29 p = 10 then -2 else S 29 p) ∧ K 5 p = (if S 30 p = -2 then 8 else S 30 p)) ∧ (∀ b, 0 ≤ b → b < S 35 0 → K 9 b = S 23 b ∧ K 10 b = S 24 b ∧ K 11 b = S 25 b)
theorem CK.p {K S : oV} {x : Int} (h : CK K S) : CKp K S x := ⟨h.1, h.2.1, fun p p0 p7 => ⟨fun _ => (h.2.2.1 p p0 p7).1, (h.2.2.1 p p0 p7).2⟩, h.2.2.2⟩
theorem CK_buys {G K S : oV} {v : Int → Int} {p d : Int} (h : CKp K S p) (hs : Sg S) (h1 : 0 ≤ G 1 0) (h8 : G 1 0 ≤ 8) (hp : 0 ≤ p) (hp7 : p < 7) (hv : v (7 + p) = habitF S p) (h0 : 0 ≤ S 35 0) (h70 : S 35 0 < 70) : CK (kBuy G v K p d) (buysF G S p d) := by
  have h80 := h.1
  rw [kBuy_eq (by omega), buysF_eq]
  have hcol : kPick G v (u1 (s1 K 8 (K 8 0 + 1)) 9 (K 8 0) p) p = colB G S p := by
    unfold colB
    refine kPick_eq ?_ h1 h8 ?_
    · intro k k0 k8
      have e1 := h.2.1 k k0 k8
      have e2 := hs k k0 k8
      have e3 := h.2.2.2 (S 31 k)
      simp only [u1_r, s1_r, Nat.reduceEqDiff, if_false, if_true]
      refine ⟨e1, ?_⟩
      rcases e2 with e2 | e2
      · exact Or.inl e2
      · exact Or.inr ⟨e2.1, (e3 e2.1 e2.2).2.1⟩
    · rw [hv]
      simp only [habitF, u1_r, s1_r, Nat.reduceEqDiff, if_false]
  refine CK_puts ?_ ?_ h1 h8 hp hp7
  · obtain ⟨a1, a2, a3, a4⟩ := h
    unfold CK
    simp only [kBuy0_r, buy0_r, hcol, h80, ne_eq, Nat.reduceEqDiff, not_false_eq_true, if_false, if_true]
    refine ⟨trivial, a2, ?_, ?_⟩
    · intro q q0 q7
      have e1 := a3 q q0 q7
      clear a2 a3 a4
      grind
    · intro b b0 b1
      have e1 := a4 b b0
      clear a2 a3 a4
      grind
  · intro k k0 k8
    have := hs k k0 k8
    simp only [buy0_r, Nat.reduceEqDiff, if_false, if_true]
    omega
theorem Sg_of {G S : oV} {x : Int} (h : WSx G S x) : Sg S := fun k k0 k8 => by
  have := h.2.1 k k0 k8
  omega
theorem kExch_r {K : oV} {a b m : Int} {j : Nat} (hab : a ≠ b) : kExch K a b j m = if j = 2 then (if m = b then K 2 a else if m = a then K 2 b else K 2 m) else if j = 4 then (if 0 ≤ K 2 a ∧ m = K 9 (K 2 a) then b else if 0 ≤ K 2 b ∧ m = K 9 (K 2 b) then a else K 4 m) else K j m := by
  unfold kExch
  try dsimp only
  have e1 : u1 (u1 K 2 a (K 2 b)) 2 b (K 2 a) 2 a = K 2 b := by simp only [u1_r, if_true, if_neg hab]
  have e2 : ∀ x, u1 (u1 K 2 a (K 2 b)) 2 b (K 2 a) 9 x = K 9 x := fun x => by simp only [u1_r, Nat.reduceEqDiff, if_false]
  have e3 : u1 (u1 K 2 a (K 2 b)) 2 b (K 2 a) 2 b = K 2 a := by simp only [u1_r, if_true]
  rw [e1, e2]
  by_cases h1 : 0 ≤ K 2 b <;> by_cases h2 : 0 ≤ K 2 a <;> simp only [h1, h2, if_true, if_false, u1_r, Nat.reduceEqDiff] <;> grind
theorem CK_exch {G K S : oV} {a b d : Int} (hG : GW G) (h : CK K S) (hi : IV G S d) (ha : 0 ≤ a) (ha2 : a < G 1 0) (hb : 0 ≤ b) (hb2 : b < G 1 0) (hab : a ≠ b) : CK (kExch K a b) (exchF S a b) := by
  obtain ⟨-, ⟨g1, g2⟩, -⟩ := hG
  obtain ⟨⟨w1, w2, w3, w4⟩, -, -⟩ := hi
  obtain ⟨a1, a2, a3, a4⟩ := h
  have ea := a2 a ha (by omega)
  have eb := a2 b hb (by omega)
  have wa := w2 a ha (by omega)
  have wb := w2 b hb (by omega)
  have oa := a4 (S 31 a)
  have ob := a4 (S 31 b)
  unfold CK
  simp only [kExch_r hab, exchF_r, Nat.reduceEqDiff, if_false, if_true]
  refine ⟨a1, ?_, ?_, a4⟩
  · intro k k0 k8
    have e1 := a2 k k0 k8
    clear a2 a3 a4 w2 w3 w4
    grind
  · intro q q0 q7
    have e1 := a3 q q0 q7
    clear a2 a3 a4 w2 w3 w4
    rw [ea, eb]
    by_cases h1 : S 31 a = -2 <;> by_cases h2 : S 31 b = -2
    · grind
    · grind
    · grind
    · grind
/-- the ways v are those of the reference's fields -/
def VE (G : oV) (v : Int → Int) (S : oV) : Prop := (∀ p, 0 ≤ p → p < G 4 0 → v p = kindF S p ∧ v (7 + p) = habitF S p ∧ v (14 + p) = S 18 (14 + p)) ∧ v 21 = S 18 21 ∧ ∀ k, 0 ≤ k → k < v 21 → v (22 + 3 * k) = S 18 (22 + 3 * k) ∧ v (22 + 3 * k + 1) = S 18 (22 + 3 * k + 1) ∧ v (22 + 3 * k + 2) = S 18 (22 + 3 * k + 2)
theorem VE_fr {G S T : oV} {v : Int → Int} (h : VE G v S) (hf : Fr S T) : VE G v T := by
  unfold VE
  rw [hf 18 (by omega)]
  refine ⟨fun p p0 p1 => ?_, h.2⟩
  rw [kindF_fr hf, habitF_fr hf]
  exact h.1 p p0 p1
theorem CK_come {G K S : oV} {v : Int → Int} {p d : Int} (hG : GW G) (h : CK K S) (hi : IV G S d) (hv : VE G v S) (hp : 0 ≤ p) (hp7 : p < G 4 0) (hd : 0 ≤ d) (hd9 : d ≤ 29) : CK (kCome G v d p K) (comeF G d p S) := by
  obtain ⟨-, ⟨g1, g2⟩, -, -, ⟨g3, g4⟩, -⟩ := id hG
  have e1 := h.2.2.1 p hp (by omega)
  have e2 := hi.1.2.2.1 p hp (by omega) (by omega)
  unfold kCome comeF kIn
  split
  · by_cases ho : S 28 p = -2
    · rw [if_pos (by omega), if_pos ho]
      have hb : Bu G S p d := ⟨WSx_no hi.1 hp ho, hi.2.1, by have : pot S p = 0 := by unfold pot; rw [if_pos ho]
                                                             have := hi.2.2; omega⟩
      exact CK_buys h.p (Sg_of hi.1) (by omega) g2 hp (by omega) (hv.1 p hp hp7).2.1 hi.1.1 (Bu_cap hG hp hp7 hd hd9 hb)
    · rw [if_neg (by omega), if_neg ho]
      have e3 : K 4 p = S 29 p := by rw [e1.2.1, if_neg (by omega)]
      by_cases h8 : 8 ≤ S 29 p
      · rw [if_pos (by omega), if_pos h8]
        exact CK_puts h (Sg_of hi.1) (by omega) g2 hp (by omega)
      · rw [if_neg (by omega), if_neg h8]
        exact h
  · exact h
theorem CK_ren {G K S : oV} {v : Int → Int} {p d : Int} (hG : GW G) (h : CK K S) (hi : DI G S d (d + 1)) (hv : VE G v S) (hp : 0 ≤ p) (hp7 : p < G 4 0) (hd : 0 ≤ d) (hd9 : d ≤ 29) : CK (kRen G v d p K) (renF G d p S) := by
  obtain ⟨-, ⟨g1, g2⟩, -, -, ⟨g3, g4⟩, -⟩ := id hG
  have e1 := h.2.2.1 p hp (by omega)
  have e2 := hi.1.1.2.2.1 p hp (by omega) (by omega)
  unfold kRen renF kRew
  by_cases hh : hereB G p d = true
  · obtain ⟨i, i0, i1, i2, i3⟩ := hereB_iff.mp hh
    have ho := hi.2.1 p hp hp7 ⟨i, i0, i1, by omega⟩
    have e3 := (h.2.2.2 (S 28 p) ho (by omega)).2.2
    have e4 := (hv.1 p hp hp7).2.2
    have e5 : K 11 (K 3 p) = S 25 (S 28 p) := by rw [e1.1, e3]
    rw [if_pos hh]
    by_cases hk : S 18 (14 + p) ≤ d - S 25 (S 28 p)
    · rw [if_pos ⟨by omega, by omega⟩, if_pos ⟨hh, hk⟩]
      have hk3 := (hi.2.2.1 p hp hp7).2.2.1
      have hb := Bu_thr hG hp hp7 hi.1 ho (by omega)
      have h35 : thrF S p d 35 0 = S 35 0 := by simp only [thrF_r, Nat.reduceEqDiff, if_false]
      refine CK_buys ?_ (Sg_of hb.1) (by omega) g2 hp (by omega) ?_ (by rw [h35]; exact hi.1.1.1) (Bu_cap hG hp hp7 hd hd9 hb)
      · obtain ⟨a1, a2, a3, a4⟩ := h
        unfold CKp
        simp only [u1_r, kLift_r, thrF_r, Nat.reduceEqDiff, if_false, if_true]
        have e6 : K 4 p = S 29 p := by rw [e1.2.1, if_neg (by omega)]
        refine ⟨a1, ?_, ?_, a4⟩
        · intro k k0 k8
          have e7 := a2 k k0 k8
          rw [e6]
          clear a2 a3 a4 hb hi hv hG
          grind
        · intro q q0 q7
          have e7 := a3 q q0 q7
          clear a2 a3 a4 hb hi hv hG
          grind
      · rw [habitF_fr Fr_thr]; exact (hv.1 p hp hp7).2.1
    · rw [if_neg (fun q => hk (by have := q.2; omega)), if_neg (fun q => hk q.2)]
      exact h
  · rw [if_neg hh, if_neg (fun q => hh q.1)]
    exact h
theorem CK_mv {G K S : oV} {k d e : Int} (hG : GW G) (h : CK K S) (hi : DI G S d e) (hk : 0 ≤ k) (hk2 : k < G 5 0) : CK (kMv G d k K) (mvF G d k S) := by
  unfold kMv mvF
  split
  · obtain ⟨m1, m2, m3, m4⟩ := hG.2.2.2.2.2.2.2.2.2.2.2.1 k hk hk2
    exact CK_exch hG h hi.1 m2.1 m2.2 m3.1 m3.2 m4
  · exact h
theorem CK_mva {G K S : oV} {v : Int → Int} {k d e : Int} (hG : GW G) (h : CK K S) (hi : DI G S d e) (hv : VE G v S) (hk : 0 ≤ k) (hk2 : k < v 21) : CK (kMva v d k K) (mvaF d k S) := by
  obtain ⟨v1, v2, v3⟩ := hv.2.2 k hk hk2
  have hk3 : k < S 18 21 := by rw [← hv.2.1]; exact hk2
  unfold kMva mvaF
  rw [v1, v2, v3]
  split
  · obtain ⟨m1, m2, m3, m4⟩ := hi.2.2.2.2.2 k hk hk3
    exact CK_exch hG h hi.1 m2.1 m2.2 m3.1 m3.2 m4
  · exact h
/-- behind the comings of j people -/
theorem CKs_come {G K S : oV} {v : Int → Int} {d : Int} {j : Nat} (hG : GW G) (h : CK K S) (hi : IV G S d) (hv : VE G v S) (hd : 0 ≤ d) (hd9 : d ≤ 29) (hj : j ≤ G 4 0) : CK (it (kCome G v d) j K) (it (comeF G d) j S) ∧ IV G (it (comeF G d) j S) d ∧ VE G v (it (comeF G d) j S) :=
  it2_inv (fun _ K S => CK K S ∧ IV G S d ∧ VE G v S) ⟨h, hi, hv⟩ fun i x y i0 i1 k => ⟨CK_come hG k.1 k.2.1 k.2.2 i0 (by omega) hd hd9, IV_come hG i0 (by omega) hd k.2.1, VE_fr k.2.2 Fr_come⟩
theorem CKs_ren {G K S : oV} {v : Int → Int} {d : Int} {j : Nat} (hG : GW G) (h : CK K S) (hi : DI G S d (d + 1)) (hv : VE G v S) (hd : 0 ≤ d) (hd9 : d ≤ 29) (hj : j ≤ G 4 0) : CK (it (kRen G v d) j K) (it (renF G d) j S) ∧ DI G (it (renF G d) j S) d (d + 1) ∧ VE G v (it (renF G d) j S) :=
  it2_inv (fun _ K S => CK K S ∧ DI G S d (d + 1) ∧ VE G v S) ⟨h, hi, hv⟩ fun i x y i0 i1 k => ⟨CK_ren hG k.1 k.2.1 k.2.2 i0 (by omega) hd hd9, ⟨IV_ren hG k.2.1.2.2 i0 (by omega) hd k.2.1.1 k.2.1.2.1, CM_ou k.2.1.2.1 (ren_own k.2.1.1.1.1), by rw [Fr_ren 18 (by omega)]; exact k.2.1.2.2⟩, VE_fr k.2.2 Fr_ren⟩
theorem CKs_mv {G K S : oV} {v : Int → Int} {d e : Int} {j : Nat} (hG : GW G) (h : CK K S) (hi : DI G S d e) (hv : VE G v S) (hj : j ≤ G 5 0) : CK (it (kMv G d) j K) (it (mvF G d) j S) ∧ DI G (it (mvF G d) j S) d e ∧ VE G v (it (mvF G d) j S) :=
  it2_inv (fun _ K S => CK K S ∧ DI G S d e ∧ VE G v S) ⟨h, hi, hv⟩ fun i x y i0 i1 k => ⟨CK_mv hG k.1 k.2.1 i0 (by omega), DI_mv1 hG k.2.1 i0 (by omega), VE_fr k.2.2 Fr_mv⟩
theorem CKs_mva {G K S : oV} {v : Int → Int} {d e : Int} {j : Nat} (hG : GW G) (h : CK K S) (hi : DI G S d e) (hv : VE G v S) (hj : j ≤ v 21) : CK (it (kMva v d) j K) (it (mvaF d) j S) ∧ DI G (it (mvaF d) j S) d e ∧ VE G v (it (mvaF d) j S) :=
  it2_inv (fun _ K S => CK K S ∧ DI G S d e ∧ VE G v S) ⟨h, hi, hv⟩ fun i x y i0 i1 k => ⟨CK_mva hG k.1 k.2.1 k.2.2 i0 (by omega), DI_mva1 hG k.2.1 i0 (by rw [← k.2.2.2.1]; omega), VE_fr k.2.2 Fr_mva⟩
theorem CK_morn {G K S : oV} {v : Int → Int} {d : Int} (hG : GW G) (h : CK K S) (hi : DI G S d d) (hv : VE G v S) (hd : 0 ≤ d) (hd9 : d ≤ 29) : CK (kMorn G v d K) (mornF G d S) := by
  obtain ⟨-, -, -, -, ⟨g3, g4⟩, ⟨g5, g6⟩, -⟩ := id hG
  have h21 := hi.2.2.2.1
  have c1 := CKs_come (j := (G 4 0).toNat) hG h hi.1 hv hd hd9 (by omega)
  have d1 := DI_come hG hd hi
  have c2 := CKs_ren (j := (G 4 0).toNat) hG c1.1 d1 c1.2.2 hd hd9 (by omega)
  have c3 := CKs_mv (j := (G 5 0).toNat) hG c2.1 c2.2.1 c2.2.2 (by omega)
  have hv21 := c3.2.2.2.1
  have hv0 := hv.2.1
  have c4 := CKs_mva (j := (v 21).toNat) hG c3.1 c3.2.1 c3.2.2 (by omega)
  unfold kMorn mornF
  dsimp only
  rw [← hv21]
  exact c4.1
