/-! THE REFERENCE'S glass() -/
section RGL
variable {c : cT} {V : Mem} {R : Option gAV → cT → Mem → Prop} {N : Int}
theorem sF_id {S : oV} {k : Nat} : sF S k (S k) = S := by
  funext j
  by_cases h : j = k
  · subst h; rw [sF_at]
  · rw [sF_ne h]
theorem MR_new {X : oV} {r : Nat} {f : Int → Int} {Z : oV} (r5 : r ≠ 305) : sM (sO (sO V 305 X) r Z) 305 4 f = MR V r (sF X 4 f) Z := by
  have e0 : sO (sO V 305 X) r Z 305 = X := by rw [sO_ne (Ne.symm r5), sO_at]
  rw [sM, e0]
  unfold MR
  funext b
  by_cases e1 : b = 305
  · subst e1
    rw [sO_at, sO_at]
  · rw [sO_ne e1, sO_ne e1]
    by_cases e2 : b = r
    · subst e2
      rw [sO_at, sO_at]
    · rw [sO_ne e2, sO_ne e2, sO_ne e1]
theorem cc_204 {P : oV × (Int × Int)} {F : Int × Int} (c1 : 331 ≤ c.1) (c2 : (c.1 - 331) % 20 = 0) (t6 : 0 ≤ V 305 6 0 ∧ V 305 6 0 ≤ 1000) (tb : ∀ i : Int, 0 ≤ i → i < 1000 → -128 ≤ V 305 5 i ∧ V 305 5 i ≤ 127) (hP : P = prA (V 305 5) N (N.toNat + 1) zG (0, 0)) (hF : F = prF (V 305 5) N P)
    (hq1 : ¬ (0 ≤ N ∧ N ≤ V 305 6 0) → R (some (vI (-1))) c (sM (sM (sM V 305 0 (fun _ => 0)) 305 1 (fun _ => 2)) 305 2 (fun _ => -1)))
    (hq2 : 0 ≤ N ∧ N ≤ V 305 6 0 → F.1 ≠ 0 → ∀ (X Z : oV), (∀ k : Nat, k = 3 ∨ k = 5 ∨ 17 < k → X k = V 305 k) → X 1 0 = 4 → X 2 0 = F.2 → X 6 0 = 0 → X 14 0 = F.1 → R (some (vI (-1))) (cN c) (MR V c.1 X Z))
    (hq3 : 0 ≤ N ∧ N ≤ V 305 6 0 → F.1 = 0 → ∀ X : oV, X 5 = V 305 5 → X 1 0 = 0 → X 2 0 = -1 → X 3 0 = (c.1 : Int) → X 6 0 = 0 → X 14 0 = 0 → X 21 0 = 0 → X 22 0 = 0 → (∀ p : Int, 0 ≤ p → p < 7 → X 18 p = P.1 9 p ∧ X 18 (7 + p) = P.1 10 p ∧ X 18 (14 + p) = P.1 13 p) → (∀ k : Int, 21 ≤ k → k < 59 → X 18 k = 0) → R (some (vI (P.1 4 0))) (cN c) (MR V c.1 X P.1)) : CC 15 204 [vR (some 305), vI N] c V R := by
  have up : ∀ (X : oV) (k : Nat) (f : Int → Int), sM (sO V 305 X) 305 k f = sO V 305 (sF X k f) := fun X k f => by rw [sM, sO_sO, sO_at]
  have r5 : c.1 ≠ 305 := by omega
  have gu : ∀ (f : Int → Int) (i v k : Int), gUz f i v k = if k = i then v else f k := fun _ _ _ _ => rfl
  refine CC_of mt_204 gb_204 (by decide) (by decide) (rcb_o k_305) (Nat.le_of_ble_eq_true rfl) fun n dd hn hd => ?_
  show WW (bX13_glass (gOr n dd)) n [some (vR (some (305))), some (vI (N)), none] _ _ _
  unfold bX13_glass
  have hn0 : 1000000000 ≤ n := hn
  refine WW_eq (sO_id (a := 305)).symm ?_
  refine WW_se (WW_pf rfl (PE_lR rfl) k_305 PE_kI (SQ_n ?_))
  rw [up]
  obtain ⟨X0, hX0⟩ : ∃ X0, X0 = sF (V 305) 0 (fun _ => (0 : Int)) := ⟨_, rfl⟩
  rw [← hX0]
  have x06 : X0 6 = V 305 6 := by rw [hX0, sF_ne (by decide)]
  have p6 := PE_fI (ci := 13) (k := 6) (c := c) (V := sO V 305 X0) (L := [some (vR (some 305)), some (vI N), none]) rfl (PE_lR (i := 0) rfl) k_305
  rw [sO_at, x06] at p6
  have pn : PE (lI 1) [some (vR (some 305)), some (vI N), none] c (sO V 305 X0) N := PE_lI rfl
  have pc := PE_or (PE_cz (op := .lt) pn) (fun _ => PE_cm (op := .gt) pn p6)
  by_cases hc : 0 ≤ N ∧ N ≤ V 305 6 0
  rotate_left
  · have eb : (cmB ClassFile.Cond.lt N 0 || cmB ClassFile.Cond.gt N (V 305 6 0)) = true := by
      simp only [cmB, Bool.or_eq_true, decide_eq_true_eq]
      omega
    rw [eb] at pc
    refine WW_se (WW_if pc (fun _ => WW_rtE (EE_cIx hn (EE_pe (PE_aCR (PE_lR rfl) (PE_aCI PE_kI PE_a0)) (cc_172 ⟨_, rfl, SQ_s ⟨_, rfl, rfl, ?_⟩⟩)) (by omega : 1 ≤ dd))) (fun q => by cases q))
    rw [hX0]
    exact hq1 hc
  have hq2 := hq2 hc
  have hq3 := hq3 hc
  have eb : (cmB ClassFile.Cond.lt N 0 || cmB ClassFile.Cond.gt N (V 305 6 0)) = false := by
    simp only [cmB, Bool.or_eq_false_iff, decide_eq_false_iff_not]
    omega
  rw [eb] at pc
  refine WW_se (WW_if pc (fun q => by cases q) (fun _ => WW_sk (SQ_n ?_)))
  clear pc eb pn p6 hq1
  refine WW_se (WW_pf rfl (PE_lR rfl) k_305 (PE_lI rfl) (SQ_n ?_))
  rw [up]
  refine WW_se (WW_pf rfl (PE_lR rfl) k_305 PE_kI (SQ_n ?_))
  rw [up]
  refine WW_se (WW_pf rfl (PE_lR rfl) k_305 PE_kI (SQ_n ?_))
  rw [up]
  refine WW_se (WW_pf rfl (PE_lR rfl) k_305 PE_kI (SQ_n ?_))
  rw [up]
  refine WW_se (WW_nwP rfl (by omega) c1 c2 (SQ_n ?_))
  rw [MR_new r5]
  refine WW_se (WW_pf rfl (PE_lR rfl) k_305 PE_kI (SQ_n ?_))
  rw [MR_sx]
  obtain ⟨X2, hX2⟩ : ∃ X2, X2 = sF (sF (sF (sF (sF (sF X0 7 (fun _ => N)) 6 (fun _ => (0 : Int))) 8 (fun _ => (0 : Int))) 14 (fun _ => (0 : Int))) 4 (fun _ => (c.1 : Int))) 9 (fun _ => (0 : Int)) := ⟨_, rfl⟩
  rw [← hX2]
  have a7 : X2 7 0 = N := by rw [hX2, sF_ne (by decide), sF_ne (by decide), sF_ne (by decide), sF_ne (by decide), sF_ne (by decide), sF_at]
  have a6 : X2 6 0 = 0 := by rw [hX2, sF_ne (by decide), sF_ne (by decide), sF_ne (by decide), sF_ne (by decide), sF_at]
  have a8 : X2 8 0 = 0 := by rw [hX2, sF_ne (by decide), sF_ne (by decide), sF_ne (by decide), sF_at]
  have a14 : X2 14 0 = 0 := by rw [hX2, sF_ne (by decide), sF_ne (by decide), sF_at]
  have a4 : X2 4 0 = (c.1 : Int) := by rw [hX2, sF_ne (by decide), sF_at]
  have a9 : X2 9 0 = 0 := by rw [hX2, sF_at]
  have ao : ∀ k : Nat, k = 3 ∨ k = 5 ∨ 17 < k → X2 k = V 305 k := fun k hk => by rw [hX2, sF_ne (by omega), sF_ne (by omega), sF_ne (by omega), sF_ne (by omega), sF_ne (by omega), sF_ne (by omega), hX0, sF_ne (by omega)]
  clear hX2 hX0 x06 up
  have tx : TX (V 305 5) N (V 305 5) := ⟨⟨hc.1, by omega⟩, fun i i0 i1 => ⟨rfl, tb i i0 i1⟩⟩
  have mc : mcl (cN c).1 c.1 = some 12 := by
    unfold mcl
    rw [if_neg (by omega), if_pos ⟨c2, Nat.le_refl _⟩]
  refine WW_se (WW_cV (PE_aCR (PE_lR rfl) PE_a0) hn (cx_183 (p := 0) (t := V 305 5) (N := N) (by rw [MR_5, ao 5 (by omega)]; exact tx) (by rw [MR_5]; exact a7) (by rw [MR_5, a9]; decide) (by rw [MR_5]; exact a14) (by rw [MR_5]; exact a8) (by decide) hc.1 fun X3 hf3 x37 hr3 => ⟨rfl, SQ_n ?_⟩) (by omega : 3 ≤ dd))
  rw [MR_5] at hf3
  rw [MR_x]
  have bo : ∀ k : Nat, k < 8 ∨ 17 < k → X3 k = X2 k := hf3
  refine WW_se (WW_cV (PE_aCR (PE_lR rfl) PE_a0) hn (cc_195 (r := c.1) (t := V 305 5) (N := N) (s := (0, 0)) ⟨by rw [MR_5, bo 4 (by omega)]; exact a4, mc, r5⟩ (by rw [MR_5, bo 5 (by omega), ao 5 (by omega)]; exact tx) (by rw [MR_r r5]; exact GV_0 (fun _ _ => rfl)) (by rw [MR_5]; exact ⟨x37, fun _ => hr3, fun q => absurd rfl q⟩) ⟨hc.1, by omega⟩ fun X4 Z hf4 hs4 hz4 => ⟨rfl, SQ_n ?_⟩) (by omega : 14 ≤ dd))
  rw [MR_5] at hf4
  rw [MR_r r5, ← hP, ← hF] at hs4 hz4
  rw [MR_MR r5]
  have co : ∀ k : Nat, k < 8 ∨ 17 < k → X4 k = X2 k := fun k hk => (hf4 k hk).trans (bo k hk)
  have y5 : X4 5 = V 305 5 := (co 5 (by omega)).trans (ao 5 (by omega))
  have y6 : X4 6 0 = 0 := by rw [co 6 (by omega)]; exact a6
  have y4 : X4 4 0 = (c.1 : Int) := by rw [co 4 (by omega)]; exact a4
  have p14 : PE (fI 13 14 (lR 0)) [some (vR (some 305)), some (vI N), none] (cN c) (MR V c.1 X4 Z) (X4 14 0) := rl_f rfl rfl
  by_cases h0 : F.1 = 0
  rotate_left
  · obtain ⟨-, y14, y15⟩ := hs4.2.2 h0
    have hpos : 0 ≤ F.1 := by
      rw [hF]
      refine nFl_prF ?_
      rw [hP]
      exact nFl_pr (show (0 : Int) ≤ 0 by decide)
    refine WW_se (WW_if (PE_cz (op := .gt) p14) (fun _ => ?_) (fun hb => absurd (show 0 < X4 14 0 by omega) (of_decide_eq_false hb)))
    refine WW_se (WW_pf rfl (PE_lR rfl) k_305 PE_kI (SQ_n ?_))
    rw [MR_sx]
    refine WW_se (WW_pf rfl (PE_lR rfl) k_305 (rl_f (k := 15) rfl rfl) (SQ_n (WW_rt PE_kI (SQ_s ⟨_, rfl, rfl, ?_⟩))))
    rw [MR_sx]
    refine hq2 h0 _ Z (fun k hk => ?_) ?_ ?_ ?_ ?_
    · rw [sF_ne (by omega), sF_ne (by omega), co k (by omega), ao k hk]
    · rw [sF_ne (by decide), sF_at]
    · rw [sF_at, sF_ne (by decide)]; exact y15
    · rw [sF_ne (by decide), sF_ne (by decide)]; exact y6
    · rw [sF_ne (by decide), sF_ne (by decide)]; exact y14
  have y14 : X4 14 0 = 0 := (hs4.2.1 h0).2.1
  refine WW_se (WW_if (PE_cz (op := .gt) p14) (fun hb => absurd (of_decide_eq_true hb) (by omega)) (fun _ => WW_sk (SQ_n ?_)))
  have hZ := (hz4 h0).1
  subst hZ
  have hq3 := hq3 h0
  clear hz4 hs4 hq2 p14 hP hF
  refine WW_se (WW_pfP rfl (PE_lR rfl) k_305 (PE_fP rfl (PE_lR rfl) k_305 (g := c.1) (by rw [MR_5]; exact y4)) (SQ_n ?_))
  rw [MR_sx]
  obtain ⟨X5, hX5⟩ : ∃ X5, X5 = sF X4 3 (fun _ => (c.1 : Int)) := ⟨_, rfl⟩
  rw [← hX5]
  have z3 : X5 3 0 = (c.1 : Int) := by rw [hX5, sF_at]
  have z5 : X5 5 = V 305 5 := by rw [hX5, sF_ne (by decide)]; exact y5
  have z6 : X5 6 0 = 0 := by rw [hX5, sF_ne (by decide)]; exact y6
  have z14 : X5 14 0 = 0 := by rw [hX5, sF_ne (by decide)]; exact y14
  clear hX5 y5 y6 y14 y4 co bo ao a4 a6 a7 a8 a9 a14 hf3 hf4 x37 hr3
  have ew : ∀ (T : Int → Int) (i x : Int), sM (MR V c.1 (sF X5 18 T) P.1) 305 18 (gUz (MR V c.1 (sF X5 18 T) P.1 305 18) i x) = MR V c.1 (sF X5 18 (gUz T i x)) P.1 := fun T i x => by rw [MR_sx, MR_5, sF_at, sF_sF]
  refine WW_eq (show MR V c.1 X5 P.1 = MR V c.1 (sF X5 18 (X5 18)) P.1 by rw [sF_id]) ?_
  refine WW_se (WW_se (WW_st PE_kI (SQ_n ?_)))
  refine WW_for 900000000 0 59 (fun j L1 c1 V1 => ∃ T : Int → Int, L1 = [some (vR (some 305)), some (vI N), some (vI j)] ∧ c1 = cN c ∧ V1 = MR V c.1 (sF X5 18 T) P.1 ∧ ∀ k : Int, 0 ≤ k → k < j → T k = 0) (by omega) (by omega) (by omega) (by omega) ⟨X5 18, rfl, rfl, rfl, fun k k0 k1 => by omega⟩ ?_ ?_ ?_
  · rintro j _ _ _ j0 j1 ⟨T, rfl, rfl, rfl, hT⟩
    exact ⟨rfl, PE_kI⟩
  · rintro j k _ _ _ j0 j1 hk ⟨T, rfl, rfl, rfl, hT⟩
    refine WW_asF (ty := 0) (z := 0) rfl (by decide) (PE_lR rfl) k_305 (PE_lI rfl) j0 (by omega) PE_kI rfl (LQ_n ⟨rfl, gUz T j 0, rfl, rfl, ew T j 0, fun k k0 k1 => ?_⟩)
    rw [gu]
    split
    · rfl
    · exact hT k k0 (by omega)
  rintro _ _ _ ⟨T0, rfl, rfl, rfl, hT0⟩
  refine SQ_n (WW_se (WW_se (WW_st PE_kI (SQ_n ?_))))
  have pg : ∀ (L : gLo) (X : oV), L[0]? = some (some (vR (some 305))) → X 3 0 = (c.1 : Int) → PE (fR 13 3 (lR 0)) L (cN c) (MR V c.1 X P.1) (some c.1) := fun L X hl h3 => PE_fP rfl (PE_lR hl) k_305 (by rw [MR_5]; exact h3)
  refine WW_for 900000000 0 7 (fun j L1 c1 V1 => ∃ T : Int → Int, L1 = [some (vR (some 305)), some (vI N), some (vI j)] ∧ c1 = cN c ∧ V1 = MR V c.1 (sF X5 18 T) P.1 ∧ (∀ p : Int, 0 ≤ p → p < j → T p = P.1 9 p ∧ T (7 + p) = P.1 10 p ∧ T (14 + p) = P.1 13 p) ∧ ∀ k : Int, 21 ≤ k → k < 59 → T k = 0) (by omega) (by omega) (by omega) (by omega) ⟨T0, rfl, rfl, rfl, fun k k0 k1 => by omega, fun k k0 k1 => hT0 k (by omega) k1⟩ ?_ ?_ ?_
  · rintro j _ _ _ j0 j1 ⟨T, rfl, rfl, rfl, hT⟩
    exact ⟨rfl, PE_kI⟩
  · rintro j k _ _ _ j0 j1 hk ⟨T, rfl, rfl, rfl, hT, hT2⟩
    have pi : ∀ (a : Int) (W : Mem), 0 ≤ a → a ≤ 14 → PE (o2 zAdd (kI a) (lI 2)) [some (vR (some 305)), some (vI N), some (vI j)] (cN c) W (a + j) := fun a W b0 b1 => by
      have q := PE_o2 (f := zAdd) (PE_kI (z := a) (L := [some (vR (some 305)), some (vI N), some (vI j)]) (c := cN c) (V := W)) (PE_lI (i := 2) rfl)
      rwa [zAdd_id (by omega) (by omega)] at q
    have pv : ∀ (k : Nat) (p : Nat) (T : Int → Int), (tab 12)[k]? = some (2, p, 7) → PE (aI 0 (fR 12 k (fR 13 3 (lR 0))) (lI 2)) [some (vR (some 305)), some (vI N), some (vI j)] (cN c) (MR V c.1 (sF X5 18 T) P.1) (P.1 k j) := fun k p T hk => by
      have q := PE_aF (ty := 0) (c := cN c) (V := MR V c.1 (sF X5 18 T) P.1) (L := [some (vR (some 305)), some (vI N), some (vI j)]) hk (by decide) (pg _ (sF X5 18 T) rfl (by rw [sF_ne (by decide)]; exact z3)) mc (PE_lI (i := 2) rfl) j0 (by omega)
      rwa [MR_r r5] at q
    refine WW_se (WW_asF (ty := 0) (z := P.1 9 j) rfl (by decide) (PE_lR rfl) k_305 (pi 0 _ (by omega) (by omega)) (by omega) (by omega) (pv 9 _ T rfl) rfl (SQ_n ?_))
    rw [ew]
    refine WW_se (WW_asF (ty := 0) (z := P.1 10 j) rfl (by decide) (PE_lR rfl) k_305 (pi 7 _ (by omega) (by omega)) (by omega) (by omega) (pv 10 _ _ rfl) rfl (SQ_n ?_))
    rw [ew]
    refine WW_asF (ty := 0) (z := P.1 13 j) rfl (by decide) (PE_lR rfl) k_305 (pi 14 _ (by omega) (by omega)) (by omega) (by omega) (pv 13 _ _ rfl) rfl (LQ_n ⟨rfl, _, rfl, rfl, ew _ _ _, fun p p0 p1 => ?_, fun k k0 k1 => ?_⟩)
    · by_cases e : p = j
      · subst e
        refine ⟨?_, ?_, ?_⟩
        · rw [gu, gu, gu, if_neg (by omega), if_neg (by omega), if_pos (by omega)]
        · rw [gu, gu, if_neg (by omega), if_pos rfl]
        · rw [gu, if_pos rfl]
      · obtain ⟨u1, u2, u3⟩ := hT p p0 (by omega)
        refine ⟨?_, ?_, ?_⟩
        · rw [gu, gu, gu, if_neg (by omega), if_neg (by omega), if_neg (by omega)]; exact u1
        · rw [gu, gu, gu, if_neg (by omega), if_neg (by omega), if_neg (by omega)]; exact u2
        · rw [gu, gu, gu, if_neg (by omega), if_neg (by omega), if_neg (by omega)]; exact u3
    · rw [gu, gu, gu, if_neg (by omega), if_neg (by omega), if_neg (by omega)]
      exact hT2 k k0 k1
  rintro _ _ _ ⟨T, rfl, rfl, rfl, hT, hT2⟩
  refine SQ_n (WW_se (WW_pf rfl (PE_lR rfl) k_305 PE_kI (SQ_n ?_)))
  rw [MR_sx]
  refine WW_se (WW_pf rfl (PE_lR rfl) k_305 PE_kI (SQ_n ?_))
  rw [MR_sx]
  have p4 := PE_fI (ci := 12) (k := 4) (c := cN c) (V := MR V c.1 (sF (sF (sF X5 18 T) 21 (fun _ => 0)) 22 (fun _ => 0)) P.1) (L := [some (vR (some 305)), some (vI N), some (vI 7)]) rfl (pg _ _ rfl (by rw [sF_ne (by decide), sF_ne (by decide), sF_ne (by decide)]; exact z3)) mc
  rw [MR_r r5] at p4
  refine WW_rtE (EE_cIx hn (EE_pe (PE_aCR (PE_lR rfl) (PE_aCI p4 PE_a0)) (cc_174 ⟨_, rfl, ⟨_, rfl, rfl, ?_⟩⟩)) (by omega : 1 ≤ dd))
  rw [MR_sx, MR_sx]
  refine hq3 _ ?_ ?_ ?_ ?_ ?_ ?_ ?_ ?_ ?_ ?_
  · rw [sF_ne (by decide), sF_ne (by decide), sF_ne (by decide), sF_ne (by decide), sF_ne (by decide)]; exact z5
  · rw [sF_ne (by decide), sF_at]
  · rw [sF_at]
  · rw [sF_ne (by decide), sF_ne (by decide), sF_ne (by decide), sF_ne (by decide), sF_ne (by decide)]; exact z3
  · rw [sF_ne (by decide), sF_ne (by decide), sF_ne (by decide), sF_ne (by decide), sF_ne (by decide)]; exact z6
  · rw [sF_ne (by decide), sF_ne (by decide), sF_ne (by decide), sF_ne (by decide), sF_ne (by decide)]; exact z14
  · rw [sF_ne (by decide), sF_ne (by decide), sF_ne (by decide), sF_at]
  · rw [sF_ne (by decide), sF_ne (by decide), sF_at]
  · rw [sF_ne (by decide), sF_ne (by decide), sF_ne (by decide), sF_ne (by decide), sF_at]
    exact hT
  · rw [sF_ne (by decide), sF_ne (by decide), sF_ne (by decide), sF_ne (by decide), sF_at]
    exact hT2
end RGL
