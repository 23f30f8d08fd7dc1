/-! PAIRINGS: the ways by what the diary has; whom to ask -/
def chD (G K D : oV) (d : Int) (who : Nat → Int) (A : Int → Bool) (i k : Nat) : Bool := likB G (who i) (colD K D d (k : Int)) && (!(A (who i)) || decide (D 2 (7 * d + who i) = (k : Int)))
def wayD (G K D : oV) (d : Int) (A : Int → Bool) : List (List Nat) := Gs (chD G K D d (ithP (okP D G d) (G 4 0).toNat) A) (G 1 0).toNat (cnt (G 4 0).toNat (okP D G d)).toNat []
def wayT (G T : oV) (d : Int) (A : Int → Bool) : List (List Nat) := Gs (chW G T d (ithP (okR T G d) (G 4 0).toNat) A) (G 1 0).toNat (cnt (G 4 0).toNat (okR T G d)).toNat []
section WD
variable {G K D T : oV} {d : Int}
theorem wayT_D {A A' : Int → Bool} (hG : GW G) (hD : DY G K D T) (hO : OWN G T (G 0 0)) (hd : 0 ≤ d) (hd1 : d < G 0 0) (hA : ∀ p, 0 ≤ p → p < G 4 0 → okR T G d p = true → A p = A' p) : wayT G T d A = wayD G K D d A' := by
  have y1 := hG.2.1
  have y4 := hG.2.2.2.2.1
  unfold wayT wayD
  rw [cntP_eq hD hO hd hd1 y4.2 (by omega)]
  refine Gs_cg (n := (cnt (G 4 0).toNat (okR T G d)).toNat) (fun i k hi hk => ?_) (by show 0 + _ ≤ _; omega)
  have hcl := cnt_le (n := (G 4 0).toNat) (P := okR T G d)
  obtain ⟨p, p0, p1, p2, p3⟩ := cnt_sur (ok := okR T G d) (n := (G 4 0).toNat) (i := i) (by omega)
  have w1 : ithP (okR T G d) (G 4 0).toNat i = p := by
    have := ith_cnt (n := (G 4 0).toNat) p0 p1 p2
    rw [p3] at this
    exact this
  have hpok : okP D G d p = true := by rw [okP_eq hD hO hd hd1 p0 (by omega) y4.2]; exact p2
  have w2 : ithP (okP D G d) (G 4 0).toNat i = p := by
    have := ith_cnt (n := (G 4 0).toNat) p0 p1 hpok
    rw [cntP_eq hD hO hd hd1 y4.2 (by omega), p3] at this
    exact this
  obtain ⟨d1', d2', d3'⟩ := D2_eq hD hO hd hd1 p0 (by omega) y4.2
  have hl8 : T 33 (7 * d + p) < 8 := by
    unfold okR at p2
    simp only [Bool.and_eq_true, decide_eq_true_eq] at p2
    exact p2.2
  unfold chW chD
  rw [w1, w2, DY_col hD hd hd1 (k := (k : Int)) (by omega) (by omega) y1.2, hA p p0 (by omega) p2, d1', if_neg (by omega)]
/-- what is known of what was gathered -/
theorem gat_all {X : oV} (hG : GW G) (hX : GAT X K D G d (G 4 0)) (hD : DY G K D T) (hO : OWN G T (G 0 0)) (hd : 0 ≤ d) (hd1 : d < G 0 0) : ∃ m P : Nat, (X 0 0 = (m : Int) ∧ X 5 0 = (P : Int) ∧ m ≤ 7 ∧ 1 ≤ P ∧ P ≤ 8) ∧ (∀ i j : Nat, i < m → j < m → X 1 i = X 1 j → i = j) ∧ (cnt (G 4 0).toNat (okP D G d) = (m : Int) ∧ (∀ i : Nat, i < m → ∃ p : Int, 0 ≤ p ∧ p < G 4 0 ∧ okP D G d p = true ∧ cnt p.toNat (okP D G d) = (i : Int) ∧ X 1 i = p)) ∧ ∀ (V : Mem) (a : Int), V 294 2 = X 2 → V 294 3 = X 3 → Gs (chF2 V a) P m [] = wayD G K D d (fun p => decide (¬ zAnd a (zShl 1 (cnt p.toNat (okP D G d))) = 0)) := by
  have y1 := hG.2.1
  have y4 := hG.2.2.2.2.1
  have hcl := cnt_le (n := (G 4 0).toNat) (P := okP D G d)
  have ec := cntP_eq (n := (G 4 0).toNat) hD hO hd hd1 y4.2 (by omega)
  have hw : ∀ i : Nat, i < (cnt (G 4 0).toNat (okP D G d)).toNat → ∃ p : Int, 0 ≤ p ∧ p < G 4 0 ∧ okP D G d p = true ∧ cnt p.toNat (okP D G d) = (i : Int) ∧ X 1 i = p := fun i hi => by
    obtain ⟨p, p0, p1, p2, p3, p4, p5, -⟩ := gat_who hX hD hO hd hd1 y4.2 (by omega) (i := i) (by omega)
    exact ⟨p, p0, p1, by rw [okP_eq hD hO hd hd1 p0 p1 y4.2]; exact p2, by rw [cntP_eq hD hO hd hd1 y4.2 (by omega)]; exact p3, p5⟩
  refine ⟨(cnt (G 4 0).toNat (okP D G d)).toNat, (G 1 0).toNat, ⟨by rw [hX.2.1]; omega, by rw [hX.1]; omega, by omega, by omega, by omega⟩, fun i j hi hj he => ?_, ⟨by omega, hw⟩, fun V a h2 h3 => ?_⟩
  · obtain ⟨p, -, -, -, p3, p4⟩ := hw i hi
    obtain ⟨q, -, -, -, q3, q4⟩ := hw j hj
    rw [p4, q4] at he
    rw [he, q3] at p3
    omega
  · rw [← wayT_D (T := T) (A := fun p => decide (¬ zAnd a (zShl 1 (cnt p.toNat (okR T G d))) = 0)) hG hD hO hd hd1 fun p p0 p1 _ => by
      show decide (¬ zAnd a (zShl 1 (cnt p.toNat (okR T G d))) = 0) = decide (¬ zAnd a (zShl 1 (cnt p.toNat (okP D G d))) = 0)
      rw [cntP_eq hD hO hd hd1 y4.2 (by omega)]]
    unfold wayT
    rw [ec]
    exact Gs_cg (n := (cnt (G 4 0).toNat (okR T G d)).toNat) (fun i k hi hk => ch_link h2 h3 y1.1 y1.2 hX hD hO hd hd1 y4.2 (by omega) hi hk) (by show 0 + _ ≤ _; omega)
/-- the places that one could have -/
def couD (G K D : oV) (d p : Int) : Int := if okP D G d p = true then bset 8 (fun k => dn (wayD G K D d (fun _ => false)) (cnt p.toNat (okP D G d)).toNat k.toNat) else 0
end WD
def tbN (A : Nat) : Int → Bool := fun q => A.testBit q.toNat
def pd (A a : Nat) : Int := bset 8 (fun p => tbN A p && a.testBit (cnt p.toNat (tbN A)).toNat)
def chk (A : Nat) : Nat → Nat → Nat → Bool
  | 0, _, r => decide (r = 2 ^ (cnt 8 (tbN A)).toNat)
  | f + 1, s, r => if s &&& A = s then decide (pd A r = (s : Int)) && (decide (popF r = popF s) && chk A f (s + 1) (r + 1)) else chk A f (s + 1) r
theorem chk_all : ∀ A ∈ List.range 128, chk A (A + 1) 0 0 = true := by decide +kernel
theorem pd_all : ∀ A ∈ List.range 128, pd A (2 ^ (cnt 8 (tbN A)).toNat - 1) = (A : Int) ∧ popF ((2 ^ (cnt 8 (tbN A)).toNat - 1 : Nat) : Int) = popF A := by decide +kernel
theorem sub_dec : ∀ A ∈ List.range 128, ∀ s ∈ List.range 128, decide (zAnd (s : Int) (zXor (A : Int) (-1)) = 0) = decide (s &&& A = s) := by decide +kernel
/-- as the reference goes through the sets -/
def refL (A : Nat) (w : Int → Bool) : Nat → Nat → Int → Int
  | 0, _, b => b
  | f + 1, s, b => refL A w f (s + 1) (if s &&& A = s ∧ popF s < popF b ∧ w s = true then (s : Int) else b)
theorem ask_sim {A : Nat} {w w' : Int → Bool} {i0 : Int} (hw : ∀ r s : Nat, r < 256 → pd A r = (s : Int) → w' s = w r) : ∀ {f s r : Nat} {b : Int}, r ≤ s → s + f ≤ 256 → chk A f s r = true → b = pd A (askF w i0 r).toNat → popF b = popF (askF w i0 r) → refL A w' f s b = pd A (askF w i0 (2 ^ (cnt 8 (tbN A)).toNat)).toNat
  | 0, s, r, b, _, _, hc, hb, _ => by
    have : r = 2 ^ (cnt 8 (tbN A)).toNat := of_decide_eq_true hc
    rw [← this]
    exact hb
  | f + 1, s, r, b, hr, hsf, hc, hb, hp => by
    have hc : (if s &&& A = s then decide (pd A r = (s : Int)) && (decide (popF r = popF s) && chk A f (s + 1) (r + 1)) else chk A f (s + 1) r) = true := hc
    show refL A w' f (s + 1) (if s &&& A = s ∧ popF s < popF b ∧ w' s = true then (s : Int) else b) = _
    by_cases hs : s &&& A = s
    · rw [if_pos hs] at hc
      simp only [Bool.and_eq_true, decide_eq_true_eq] at hc
      obtain ⟨c1, c2, c3⟩ := hc
      have nx : askF w i0 (r + 1) = if popF r < popF (askF w i0 r) ∧ w r = true then (r : Int) else askF w i0 r := rfl
      by_cases hq : popF r < popF (askF w i0 r) ∧ w r = true
      · rw [if_pos ⟨hs, by rw [hp, ← c2]; exact hq.1, by rw [hw r s (by omega) c1]; exact hq.2⟩]
        rw [if_pos hq] at nx
        exact ask_sim hw (by omega) (by omega) c3 (by rw [nx]; exact c1.symm) (by rw [nx]; exact c2.symm)
      · rw [if_neg (fun q => hq ⟨by rw [c2, ← hp]; exact q.2.1, by rw [← hw r s (by omega) c1]; exact q.2.2⟩)]
        rw [if_neg hq] at nx
        exact ask_sim hw (by omega) (by omega) c3 (by rw [nx]; exact hb) (by rw [nx]; exact hp)
    · rw [if_neg hs] at hc
      rw [if_neg (fun q => hs q.1)]
      exact ask_sim hw (by omega) (by omega) hc hb hp
theorem refL_rng {A : Nat} {w : Int → Bool} : ∀ {f s : Nat} {b : Int}, 0 ≤ b → b < 128 → s + f ≤ 128 → 0 ≤ refL A w f s b ∧ refL A w f s b < 128
  | 0, s, b, h0, h1, _ => ⟨h0, h1⟩
  | f + 1, s, b, h0, h1, h2 => by
    show 0 ≤ refL A w f (s + 1) (if s &&& A = s ∧ popF s < popF b ∧ w s = true then (s : Int) else b) ∧ _
    exact refL_rng (by split <;> omega) (by split <;> omega) (by omega)
theorem tb_dec : ∀ b0 b1 b2 b3 b4 b5 b6 b7 : Bool, ∀ k ∈ List.range 8, (bset 8 (fun p => [b0, b1, b2, b3, b4, b5, b6, b7].getD p.toNat false)).toNat.testBit k = [b0, b1, b2, b3, b4, b5, b6, b7].getD k false := by decide +kernel
theorem tb8 {P : Int → Bool} {k : Int} (h0 : 0 ≤ k) (hk : k < 8) : tbN (bset 8 P).toNat k = P k := by
  have h := tb_dec (P 0) (P 1) (P 2) (P 3) (P 4) (P 5) (P 6) (P 7) k.toNat (List.mem_range.mpr (by omega))
  have e1 : bset 8 P = bset 8 (fun p => [P 0, P 1, P 2, P 3, P 4, P 5, P 6, P 7].getD p.toNat false) := bset_congr fun j j0 j1 => l8 j0 j1
  unfold tbN
  rw [e1, h, ← l8 h0 hk]
/-- the people of an evening as a set -/
def okN (D G : oV) (d : Int) : Int → Bool := fun p => decide (p < G 4 0) && okP D G d p
theorem okN_cnt {D G : oV} {d : Int} {n : Nat} (h : (n : Int) ≤ G 4 0) : cnt n (okN D G d) = cnt n (okP D G d) := cnt_congr fun j j0 j1 => by
  unfold okN
  rw [decide_eq_true (by omega)]
  rfl
theorem cnt_beh {P : Int → Bool} {n : Nat} (h : ∀ j : Int, n ≤ j → P j = false) : ∀ {k : Nat}, cnt (n + k) P = cnt n P
  | 0 => rfl
  | k + 1 => by
    show cnt (n + k) P + (if P ((n + k : Nat) : Int) = true then 1 else 0) = cnt n P
    rw [cnt_beh h, h _ (by omega), if_neg (by decide)]
    omega
theorem okN_8 {D G : oV} {d : Int} (h0 : 0 ≤ G 4 0) (h7 : G 4 0 ≤ 7) : cnt 8 (okN D G d) = cnt (G 4 0).toNat (okP D G d) := by
  rw [← okN_cnt (n := (G 4 0).toNat) (by omega)]
  have := cnt_beh (P := okN D G d) (n := (G 4 0).toNat) (fun j hj => by unfold okN; rw [decide_eq_false (by omega)]; rfl) (k := 8 - (G 4 0).toNat)
  rw [show (G 4 0).toNat + (8 - (G 4 0).toNat) = 8 by omega] at this
  exact this
theorem okN_128 {D G : oV} {d : Int} (h7 : G 4 0 ≤ 7) : 0 ≤ bset 8 (okN D G d) ∧ bset 8 (okN D G d) < 128 := by
  have h := (or_bset (P := okN D G d) (n := 7) (by omega)).2
  have e : bset 8 (okN D G d) = bset 7 (okN D G d) + (if okN D G d 7 = true then 2 ^ 7 else 0) := rfl
  have e2 : okN D G d 7 = false := by unfold okN; rw [decide_eq_false (by omega)]; rfl
  rw [e, e2, if_neg (by decide)]
  omega
theorem tb_ok {D G : oV} {d : Int} {p : Int} (h0 : 0 ≤ p) (h8 : p < 8) : tbN (bset 8 (okN D G d)).toNat p = okN D G d p := tb8 h0 h8
theorem tb_cnt {D G : oV} {d : Int} {n : Nat} (h8 : n ≤ 8) : cnt n (tbN (bset 8 (okN D G d)).toNat) = cnt n (okN D G d) := cnt_congr fun j j0 j1 => tb_ok j0 (by omega)
theorem orz8_dec : ∀ x ∈ List.range 256, zOr (x : Int) 0 = x := by decide +kernel
theorem or_z8 {x : Int} (h0 : 0 ≤ x) (h1 : x < 256) : zOr x 0 = x := by
  have := orz8_dec x.toNat (List.mem_range.mpr (by omega))
  rwa [Int.toNat_of_nonneg h0] at this
/-- bits of people in the order of the gathering, as a set -/
theorem msk_pd {D G : oV} {f : Int → Int} {d b : Int} {m : Nat} (hb0 : 0 ≤ b) (hb : b < 256) (h0 : 0 ≤ G 4 0) (h7 : G 4 0 ≤ 7) (hm : cnt (G 4 0).toNat (okP D G d) = (m : Int)) (hX : ∀ i : Nat, i < m → ∃ p : Int, 0 ≤ p ∧ p < G 4 0 ∧ okP D G d p = true ∧ cnt p.toNat (okP D G d) = (i : Int) ∧ f i = p) : mskF f b m = pd (bset 8 (okN D G d)).toNat b.toNat := by
  have key : ∀ n : Nat, n ≤ m → mskF f b n = bset 8 (fun p => okN D G d p && (decide (cnt p.toNat (okP D G d) < (n : Int)) && b.toNat.testBit (cnt p.toNat (okP D G d)).toNat)) := fun n => by
    induction n with
    | zero =>
      intro _
      rw [bset_congr (Q := fun _ => false) fun j j0 j1 => by
        have := cnt_le (n := j.toNat) (P := okP D G d)
        rw [decide_eq_false (by omega), Bool.false_and, Bool.and_false]]
      rfl
    | succ n ih =>
      intro hn
      have ih := ih (by omega)
      obtain ⟨p, p0, p1, p2, p3, p4⟩ := hX n (by omega)
      have hcl := cnt_le (n := (G 4 0).toNat) (P := okP D G d)
      have bd := (bits_dec b.toNat (List.mem_range.mpr (by omega)) n (List.mem_range.mpr (by omega))).1
      rw [Int.toNat_of_nonneg hb0] at bd
      have hz := shz_dec n (List.mem_range.mpr (by omega))
      have hinj : ∀ q : Int, 0 ≤ q → q < 8 → okN D G d q = true → cnt q.toNat (okP D G d) = (n : Int) → q = p := fun q q0 q8 hq hc => by
        unfold okN at hq
        simp only [Bool.and_eq_true, decide_eq_true_eq] at hq
        have a1 := ith_cnt (n := (G 4 0).toNat) q0 (by omega) hq.2
        have a2 := ith_cnt (n := (G 4 0).toNat) p0 (by omega) p2
        rw [hc] at a1
        rw [p3] at a2
        rw [← a1, a2]
      have hNp : okN D G d p = true := by unfold okN; rw [decide_eq_true p1, p2]; rfl
      show zOr (mskF f b n) (if ¬ zAnd b (zShl 1 (n : Int)) = 0 then zShl 1 (f n) else 0) = _
      rw [ih, p4, bd]
      have hone : ∀ q : Int, 0 ≤ q → q < 8 → (okN D G d q && (decide (cnt q.toNat (okP D G d) < ((n + 1 : Nat) : Int)) && b.toNat.testBit (cnt q.toNat (okP D G d)).toNat)) = ((okN D G d q && (decide (cnt q.toNat (okP D G d) < (n : Int)) && b.toNat.testBit (cnt q.toNat (okP D G d)).toNat)) || (decide (q = p) && b.toNat.testBit n)) := fun q q0 q8 => by
        by_cases e : q = p
        · subst e
          have e1 : decide (cnt q.toNat (okP D G d) < ((n + 1 : Nat) : Int)) = true := decide_eq_true (by omega)
          have e2 : decide (cnt q.toNat (okP D G d) < (n : Int)) = false := decide_eq_false (by omega)
          have e3 : (cnt q.toNat (okP D G d)).toNat = n := by omega
          rw [e1, e2, e3, hNp]
          simp
        · rw [decide_eq_false e, Bool.false_and, Bool.or_false]
          cases hq : okN D G d q
          · rfl
          · have hne : ¬ cnt q.toNat (okP D G d) = (n : Int) := fun hc => e (hinj q q0 q8 hq hc)
            have e1 : decide (cnt q.toNat (okP D G d) < ((n + 1 : Nat) : Int)) = decide (cnt q.toNat (okP D G d) < (n : Int)) := decide_eq_decide.mpr (by omega)
            rw [e1]
      obtain ⟨pn, rfl⟩ : ∃ pn : Nat, p = (pn : Int) := ⟨p.toNat, by omega⟩
      by_cases ht : b.toNat.testBit n = true
      · rw [if_pos ht, if_pos hz, or8 (by omega)]
        refine bset_congr fun q q0 q8 => ?_
        rw [hone q q0 q8, ht, Bool.and_true]
      · have hf : b.toNat.testBit n = false := by simpa using ht
        rw [if_neg ht, if_neg (fun q => q rfl)]
        have hr := (bset8 (P := fun p => okN D G d p && (decide (cnt p.toNat (okP D G d) < (n : Int)) && b.toNat.testBit (cnt p.toNat (okP D G d)).toNat))).1
        rw [or_z8 hr.1 hr.2]
        refine bset_congr fun q q0 q8 => ?_
        rw [hone q q0 q8, hf, Bool.and_false, Bool.or_false]
  rw [key m (Nat.le_refl m)]
  unfold pd
  refine bset_congr fun q q0 q8 => ?_
  rw [tb_ok q0 q8]
  cases hq : okN D G d q
  · rfl
  · have hq' := hq
    unfold okN at hq'
    simp only [Bool.and_eq_true, decide_eq_true_eq] at hq'
    have hlt := cnt_lt q0 hq'.2 (n := (G 4 0).toNat) (by omega)
    rw [decide_eq_true (by omega), tb_cnt (by omega), okN_cnt (by omega)]
    simp
theorem t255_dec : ∀ i ∈ List.range 8, (255 : Nat).testBit i = true ∧ ¬ zAnd 255 (zShl 1 (i : Int)) = 0 := by decide +kernel
theorem pd_255 {D G : oV} {d : Int} : pd (bset 8 (okN D G d)).toNat 255 = bset 8 (okN D G d) := by
  unfold pd
  refine bset_congr fun q q0 q8 => ?_
  have hcl := cnt_le (n := q.toNat) (P := tbN (bset 8 (okN D G d)).toNat)
  rw [(t255_dec _ (List.mem_range.mpr (by omega))).1, tb_ok q0 q8, Bool.and_true]
theorem or_who {D G : oV} {f : Int → Int} {d : Int} {m : Nat} (h0 : 0 ≤ G 4 0) (h7 : G 4 0 ≤ 7) (hm : cnt (G 4 0).toNat (okP D G d) = (m : Int)) (hX : ∀ i : Nat, i < m → ∃ p : Int, 0 ≤ p ∧ p < G 4 0 ∧ okP D G d p = true ∧ cnt p.toNat (okP D G d) = (i : Int) ∧ f i = p) : it (fun i z => zOr z (zShl 1 (f i))) m 0 = bset 8 (okN D G d) := by
  have h := msk_pd (b := 255) (by decide) (by decide) h0 h7 hm hX
  have e : ((255 : Int)).toNat = 255 := rfl
  rw [e, pd_255] at h
  rw [← h]
  have hcl := cnt_le (n := (G 4 0).toNat) (P := okP D G d)
  refine it_congr fun j j0 j1 x => ?_
  have := (t255_dec j.toNat (List.mem_range.mpr (by omega))).2
  rw [Int.toNat_of_nonneg j0] at this
  rw [if_pos this]
theorem wayT_ext {G X T : oV} {d : Int} {A : Int → Bool} (h33 : X 33 = T 33) (h32 : X 32 = T 32) (h24 : X 24 = T 24) : wayT G X d A = wayT G T d A := by
  have e1 : okR X G d = okR T G d := by
    funext p
    unfold okR
    rw [h33]
  have e2 : chW G X d = chW G T d := by
    funext who A i k
    unfold chW colT
    rw [h33, h32, h24]
  unfold wayT
  rw [e1, e2]
theorem way_0 {G K D : oV} {d : Int} : wayD G K D d (fun p => decide (¬ zAnd 0 (zShl 1 (cnt p.toNat (okP D G d))) = 0)) = wayD G K D d (fun _ => false) := by
  congr 1
  funext p
  rw [zAnd_l0]
  rfl
theorem sh0_dec : ∀ p ∈ List.range 8, decide (zAnd (zShr 0 (p : Int)) 1 = 1) = false := by decide +kernel
/-- whom to ask -/
def askW (G K D : oV) (d : Int) : Int → Bool := fun a => decide ((wayD G K D d (fun p => decide (¬ zAnd a (zShl 1 (cnt p.toNat (okP D G d))) = 0))).length = 1)
def askD (G K D : oV) (d : Int) (m : Nat) : Int := pd (bset 8 (okN D G d)).toNat (askF (askW G K D d) ((2 ^ m : Nat) - 1 : Int) (2 ^ m)).toNat
theorem ask_eq {G K D T : oV} {d : Int} {m : Nat} {w' : Int → Bool} (hG : GW G) (hD : DY G K D T) (hO : OWN G T (G 0 0)) (hd : 0 ≤ d) (hd1 : d < G 0 0) (hm : cnt (G 4 0).toNat (okP D G d) = (m : Int)) (hw' : ∀ s : Nat, w' s = decide ((wayT G T d (fun p => decide (zAnd (zShr (s : Int) p) 1 = 1))).length = 1)) : refL (bset 8 (okN D G d)).toNat w' ((bset 8 (okN D G d)).toNat + 1) 0 (bset 8 (okN D G d)) = askD G K D d m := by
  have y4 := hG.2.2.2.2.1
  have hr := okN_128 (D := D) (G := G) (d := d) y4.2
  obtain ⟨A, hA⟩ : ∃ A : Nat, bset 8 (okN D G d) = (A : Int) := ⟨(bset 8 (okN D G d)).toNat, by omega⟩
  have eA : (bset 8 (okN D G d)).toNat = A := by omega
  have hn : (cnt 8 (tbN A)).toNat = m := by
    rw [← eA, tb_cnt (by omega), okN_8 (by omega) y4.2, hm]
    rfl
  have hp := pd_all A (List.mem_range.mpr (by omega))
  have hc := chk_all A (List.mem_range.mpr (by omega))
  rw [hn] at hp
  have h1 := Nat.two_pow_pos m
  have e1 : ((2 ^ m : Nat) - 1 : Int) = ((2 ^ m - 1 : Nat) : Int) := by omega
  have key := ask_sim (A := A) (w := askW G K D d) (w' := w') (i0 := ((2 ^ m : Nat) - 1 : Int)) (fun r s hr hs => by
    rw [hw' s]
    unfold askW
    rw [wayT_D (K := K) (D := D) hG hD hO hd hd1 (A' := fun p => decide (¬ zAnd (r : Int) (zShl 1 (cnt p.toNat (okP D G d))) = 0)) fun p p0 p1 p2 => ?_]
    have b1 := bset8s (P := fun p => tbN A p && r.testBit (cnt p.toNat (tbN A)).toNat) (k := p.toNat) (by omega)
    have hs : bset 8 (fun p => tbN A p && r.testBit (cnt p.toNat (tbN A)).toNat) = (s : Int) := hs
    rw [hs, Int.toNat_of_nonneg p0] at b1
    rw [b1]
    have hpok : okN D G d p = true := by
      unfold okN
      rw [decide_eq_true p1, okP_eq hD hO hd hd1 p0 p1 y4.2, p2]
      rfl
    have t1 : tbN A p = true := by rw [← eA, tb_ok p0 (by omega)]; exact hpok
    have t2 : cnt p.toNat (tbN A) = cnt p.toNat (okP D G d) := by rw [← eA, tb_cnt (by omega), okN_cnt (by omega)]
    rw [t1, t2, Bool.true_and]
    have hcl := cnt_le (n := p.toNat) (P := okP D G d)
    obtain ⟨i, hi⟩ : ∃ i : Nat, cnt p.toNat (okP D G d) = (i : Int) := ⟨(cnt p.toNat (okP D G d)).toNat, by omega⟩
    have ei : (cnt p.toNat (okP D G d)).toNat = i := by omega
    have bd := (bits_dec r (List.mem_range.mpr hr) i (List.mem_range.mpr (by omega))).1
    have hz := shz_dec i (List.mem_range.mpr (by omega))
    rw [ei, hi, bd]
    cases ht : r.testBit i
    · simp
    · simp [hz]) (f := A + 1) (s := 0) (r := 0) (b := (A : Int)) (Nat.le_refl 0) (by omega) hc (by
      show (A : Int) = pd A (((2 ^ m : Nat) - 1 : Int)).toNat
      rw [e1, Int.toNat_natCast, hp.1]) (by
      show popF (A : Int) = popF ((2 ^ m : Nat) - 1 : Int)
      rw [e1, hp.2])
  unfold askD
  rw [hn] at key
  rw [hA, Int.toNat_natCast]
  exact key
/-- what the reference says that one could have -/
theorem cou_T {G K D T : oV} {d p : Int} {w : Int → Int} {A : Int → Bool} (hG : GW G) (hD : DY G K D T) (hO : OWN G T (G 0 0)) (hd : 0 ≤ d) (hd1 : d < G 0 0) (hA : ∀ p, 0 ≤ p → p < 8 → A p = false) (hw : CB G T d (dn (wayT G T d A)) w) (hp : 0 ≤ p) (hp4 : p < G 4 0) : w p = couD G K D d p := by
  have y4 := hG.2.2.2.2.1
  rw [hw p hp (by omega), wayT_D (K := K) (D := D) (A' := fun _ => false) hG hD hO hd hd1 (fun p p0 p1 _ => hA p p0 (by omega)), decide_eq_true hp4, Bool.true_and, ← okP_eq hD hO hd hd1 hp hp4 y4.2, ← cntP_eq hD hO hd hd1 y4.2 (by omega)]
  rfl
