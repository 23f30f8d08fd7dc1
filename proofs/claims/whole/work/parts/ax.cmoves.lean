/-! THE CLASS'S READER: moves -/
section CMV
variable {c : cT} {V : Mem} {g n n' dd : Nat} {G : oV} {L : gLo} {Q : gEx → gLo → cT → Mem → Prop} {R : Option gAV → cT → Mem → Prop} {t : Int → Int} {N q : Int}
theorem cl_w1 {e1 e2 : gIE} {lo hi : Int} (h1 : PE e1 L c V lo) (h2 : PE e2 L c V hi) (hn : nB ≤ n') (hd : 3 ≤ dd) (hl : L[0]? = some (some (vR (some 84)))) (ht : TX t N (V 0 0)) (hc : CT t N (V 84) q)
    (hq0 : ∀ X, FK (V 84) X → CS t N X (rdS t N (0, q) lo hi) → (rdS t N (0, q) lo hi).1 ≠ 0 → Q (some (3, some (vB false))) L c (sO V 84 X))
    (hq1 : ∀ X, FK (V 84) X → CT t N X (rdS t N (0, q) lo hi).2 → (rdS t N (0, q) lo hi).1 = 0 → X 6 0 = bnV t N (0, q) lo hi → Q none L c (sO V 84 X)) :
    WW (ifS (notC (cB (gOr n' dd) 67 (aCR (lR 0) (aCI e1 (aCI e2 (a0)))))) (rtB (kB false)) skS) n L c V Q := by
  refine WW_ifE (EE_not (EE_cB (PE_aCR (PE_lR hl) (PE_aCI h1 (PE_aCI h2 PE_a0))) hn (cc_67 ht hc fun X hf hX h6 => ⟨_, rfl, fun hb => ?_, fun hb => ?_⟩) hd))
  · have h : (rdS t N (0, q) lo hi).1 ≠ 0 := by simpa using hb
    exact WW_rtB PE_kB (hq0 X hf hX h)
  · have h : (rdS t N (0, q) lo hi).1 = 0 := by simpa using hb
    exact WW_sk (hq1 X hf (hX.1 h) h (by rw [h6 h]; exact (rdS_k h).2.2.2.2.symm))
/-- whole(.., ..), and the number into the draft's array k -/
theorem cl_wa {k off M : Nat} {e1 e2 : gIE} {lo hi mv : Int} {b : gSt} (hk : (tab 4)[k]? = some (2, off, M)) (h1 : PE e1 L c V lo) (h2 : PE e2 L c V hi) (hm : L[1]? = some (some (vI mv))) (m0 : 0 ≤ mv) (m1 : mv < M) (hg2 : g = 2 ∨ g = 43) (hg : mcl c.1 g = some 4) (h8 : V 84 8 0 = (g : Int)) (hn : nB ≤ n') (hd : 3 ≤ dd) (hl : L[0]? = some (some (vR (some 84)))) (ht : TX t N (V 0 0)) (hc : CT t N (V 84) q)
    (hq0 : ∀ W, DF g V W → CS t N (W 84) (rdS t N (0, q) lo hi) → (rdS t N (0, q) lo hi).1 ≠ 0 → Q (some (3, some (vB false))) L c W)
    (hq1 : ∀ W, DF g V W → CT t N (W 84) (rdS t N (0, q) lo hi).2 → (rdS t N (0, q) lo hi).1 = 0 → W g k = gUz (V g k) mv (bnV t N (0, q) lo hi) → (∀ j, j ≠ k → W g j = V g j) → (∀ a, a ≠ 84 → a ≠ g → W a = V a) → WW b n L c W Q) :
    WW (seS (ifS (notC (cB (gOr n' dd) 67 (aCR (lR 0) (aCI e1 (aCI e2 (a0)))))) (rtB (kB false)) skS) (seS (asI 0 (fR 4 k (fR 9 8 (lR 0))) (lI 1) (fI 9 6 (lR 0))) b)) n L c V Q := by
  have g84 : g ≠ 84 := by omega
  refine WW_se (cl_w1 h1 h2 hn hd hl ht hc (fun X hf hX h0 => SQ_s (hq0 _ (DF_x hf.f7) (by rw [sO_at]; exact hX) h0)) (fun X hf hX h0 h6 => SQ_n ?_))
  refine WW_se (WW_asF (ty := 0) (z := X 6 0) hk (by decide) (PE_fP rfl (PE_lR hl) k_84 (by rw [sO_at, hf 8 (by omega)]; exact h8)) hg (PE_lI hm) m0 m1 (cl_f (k := 6) hl rfl) rfl (SQ_n ?_))
  refine hq1 _ (DF_m (DF_x hf.f7) hg2 (by omega) (by omega)) ?_ h0 ?_ ?_ ?_
  · rw [sM, sO_ne (Ne.symm g84), sO_at]; exact hX
  · rw [sM, sO_at, sF_at, sO_ne g84, h6]
  · intro j hj
    rw [sM, sO_at, sF_ne hj, sO_ne g84]
  · intro a a1 a2
    rw [sM, sO_ne a2, sO_ne a1]
theorem cl_d {k : Nat} {x : Int} (hk : (tab 4)[k]? = some (0, 0, 0)) (hg : mcl c.1 g = some 4) (hl : L[0]? = some (some (vR (some 84)))) (h8 : V 84 8 0 = (g : Int)) (hx : V g k 0 = x) (h0 : 0 ≤ x) (h1 : x ≤ 1000) : PE (o2 zSub (fI 4 k (fR 9 8 (lR 0))) (kI 1)) L c V (x - 1) := by
  have p := PE_fI (c := c) (V := V) (L := L) hk (PE_fP (ci := 9) (k := 8) rfl (PE_lR hl) k_84 h8) hg
  rw [hx] at p
  have := PE_o2 (f := zSub) p (PE_kI (z := 1))
  rwa [zSub_id (by omega) (by omega)] at this
theorem bn_ov {s : Int × Int} {lo hi : Int} (h : s.1 ≠ 0) : bnS t N s lo hi = s := by
  unfold bnS flw
  simp [h]
theorem nC_ov {s : Int × Int} (h : s.1 ≠ 0) : ndC t N s = s := by
  unfold ndC flw gOn
  simp [h]
theorem gO_ov {s : Int × Int} (h : s.1 ≠ 0) : gOn t N s = s := by unfold gOn; rw [if_neg h]
theorem mE_ov {s : Int × Int} (h : (mD2 t N G s).1 ≠ 0) : mE t N G s = mD2 t N G s := by
  unfold mE
  dsimp only
  rw [bn_ov h, if_neg (fun z => h z.1), gO_ov h]
theorem mE_c {s : Int × Int} {q4 v3 : Int} (e : mD2 t N G s = (0, q4)) (hv : bnV t N (mB t N G s) 0 (G 1 0 - 1) = v3) (h0 : 0 ≤ v3) (h1 : v3 ≤ G 1 0 - 1) : mE t N G s = if kdF t N q4 = 3 ∧ vlF t N q4 = v3 then flw t N (0, q4) 3 else rdS t N (0, q4) 0 (G 1 0 - 1) := by
  unfold mE rdS
  dsimp only
  rw [e, hv]
  by_cases h : (bnS t N (0, q4) 0 (G 1 0 - 1)).1 = 0
  · obtain ⟨a1, -, a3, -⟩ := bnS_k h
    have a3 : kdF t N q4 = 3 := a3
    have bv : bnV t N (0, q4) 0 (G 1 0 - 1) = vlF t N q4 := by unfold bnV; rw [if_pos h]
    rw [bv]
    by_cases hh : vlF t N q4 = v3
    · rw [if_pos ⟨h, hh.symm⟩, if_pos ⟨a3, hh⟩, a1, gO_f (by decide)]
    · rw [if_neg (fun z => hh z.2.symm), if_neg (fun z => hh z.2)]
  · rw [if_neg (fun z => h z.1), if_neg]
    rintro ⟨a1, a2⟩
    apply h
    unfold bnS
    rw [if_pos ⟨rfl, a1⟩, if_pos (by dsimp only; omega)]
theorem kdC_4 : kdC (kdF t N q) = 4 ↔ kdF t N q = 5 := by
  rcases kdF_r (t := t) (N := N) (q := q) with e | e | e | e | e | e <;> rw [e] <;> decide
theorem kdC_2 : kdC (kdF t N q) = 2 ↔ kdF t N q = 3 := by
  rcases kdF_r (t := t) (N := N) (q := q) with e | e | e | e | e | e <;> rw [e] <;> decide
theorem cc_79 {s : Int × Int} {mv : Int} (hm : mv = G 5 0) (hg2 : g = 2 ∨ g = 43) (hg : mcl c.1 g = some 4) (h8 : V 84 8 0 = (g : Int)) (ht : TX t N (V 0 0)) (hc : CT t N (V 84) q) (hD : DRA t N V g G) (hG : GQ G) (h10 : G 5 0 < 10) (e : mA t N G s = (0, q)) (hq : ∀ W, DF g V W → CS t N (W 84) (mE t N G s) → ((mE t N G s).1 = 0 → DRA t N W g (mZ t N G s)) → R (some (vB (decide ((mE t N G s).1 = 0)))) c W) : CC 4 79 [vR (some 84), vI mv] c V R := by
  obtain ⟨⟨D0, D1, D2, D3, D4, D5, D6, D7⟩, hmv, hsn, hsy, hpe, hlk, hst, hhr, hnm⟩ := id hD
  obtain ⟨g0, g1, g2, g4, g5, -⟩ := id hG
  have g84 : g ≠ 84 := by omega
  have e1 : mB t N G s = rdS t N (0, q) 0 (G 0 0 - 1) := by unfold mB; rw [e]
  have fl : (mE t N G s).1 ≠ 0 → ∀ W, DF g V W → CS t N (W 84) (mE t N G s) → R (some (vB false)) c W := fun z W hW hC => by
    have := hq W hW hC (fun y => absurd y z)
    rwa [decide_eq_false z] at this
  refine CC_of mt_79 gb_79 (by decide) (by decide) (rcb_o k_84) (Nat.le_of_ble_eq_true rfl) fun n dd hn hd => ?_
  show WW (bX9_movesLine (gOr n dd)) n [some (vR (some (84))), some (vI (mv)), none] _ _ _
  unfold bX9_movesLine
  have hn0 : 1000000000 ≤ n := hn
  subst hm
  refine cl_wa (lo := 0) (hi := G 0 0 - 1) (mv := G 5 0) rfl PE_kI (cl_d rfl hg rfl h8 D0 g0.1 (by omega)) rfl g5.1 h10 hg2 hg h8 hn (by omega) rfl ht hc (fun W hW hC h0 => ?_) (fun W1 d1 c1 o1 v1 k1 a1 => ?_)
  · rw [← e1] at hC h0
    have x2 : mC t N G s = mB t N G s := by unfold mC; rw [rd_ov h0]
    have x3 : mD2 t N G s = mB t N G s := by unfold mD2; rw [x2, nC_ov h0]
    have x4 : mE t N G s = mB t N G s := by rw [mE_ov (by rw [x3]; exact h0), x3]
    exact ⟨_, rfl, rfl, fl (by rw [x4]; exact h0) W hW (by rw [x4]; exact hC)⟩
  rw [← e1] at c1 o1
  have s1 : mB t N G s = (0, (mB t N G s).2) := Prod.ext o1 rfl
  have e2 : mC t N G s = rdS t N (0, (mB t N G s).2) 0 (G 1 0 - 1) := by unfold mC; rw [← s1]
  have h81 : W1 84 8 0 = (g : Int) := by rw [d1.2 8 (by omega)]; exact h8
  refine WW_se (cl_w1 (lo := 0) (hi := G 1 0 - 1) PE_kI (cl_d rfl hg rfl h81 (by rw [k1 1 (by decide)]; exact D1) g1.1 (by omega)) hn (by omega) rfl (d1.tx hg2 ht) c1 (fun X hf hX h0 => SQ_s ?_) (fun X hf hX h0 h6 => SQ_n ?_))
  · rw [← e2] at hX h0
    have x3 : mD2 t N G s = mC t N G s := by unfold mD2; rw [nC_ov h0]
    have x4 : mE t N G s = mC t N G s := by rw [mE_ov (by rw [x3]; exact h0), x3]
    exact ⟨_, rfl, rfl, fl (by rw [x4]; exact h0) _ (d1.tr (DF_x hf.f7)) (by rw [x4, sO_at]; exact hX)⟩
  rw [← e2] at hX h0
  rw [← s1] at h6
  have kv := rdS_k (by rw [← s1, ← mC.eq_1]; exact h0 : (rdS t N (0, (mB t N G s).2) 0 (G 1 0 - 1)).1 = 0)
  obtain ⟨v3, hv3⟩ : ∃ v3, v3 = bnV t N (mB t N G s) 0 (G 1 0 - 1) := ⟨_, rfl⟩
  have b3 : 0 ≤ v3 ∧ v3 ≤ G 1 0 - 1 := by
    rw [hv3, s1, kv.2.2.2.2]
    exact kv.2.2.1
  rw [← hv3] at h6
  refine WW_se (WW_st (cl_f (k := 6) rfl rfl) (SQ_n ?_))
  rw [h6]
  refine WW_se (WW_asF (ty := 0) (z := v3) rfl (by decide) (PE_fP rfl (PE_lR rfl) k_84 (by rw [sO_at, hf 8 (by omega)]; exact h81)) hg (PE_lI rfl) g5.1 h10 (PE_lI rfl) rfl (SQ_n ?_))
  obtain ⟨W2, hW2⟩ : ∃ W2, W2 = sM (sO W1 84 X) g 8 (gUz (sO W1 84 X g 8) (G 5 0) v3) := ⟨_, rfl⟩
  rw [← hW2]
  have d2 : DF g V W2 := by rw [hW2]; exact d1.tr (DF_m (DF_x hf.f7) hg2 (by omega) (by omega))
  have w84 : W2 84 = X := by rw [hW2, sM, sO_ne (Ne.symm g84), sO_at]
  have w8 : W2 g 8 = gUz (V g 8) (G 5 0) v3 := by rw [hW2, sM, sO_at, sF_at, sO_ne g84, k1 8 (by decide)]
  have wk : ∀ j, j ≠ 8 → W2 g j = W1 g j := fun j hj => by rw [hW2, sM, sO_at, sF_ne hj, sO_ne g84]
  have wa : ∀ a, a ≠ 84 → a ≠ g → W2 a = V a := fun a a1' a2' => by rw [hW2, sM, sO_ne a2', sO_ne a1']; exact a1 a a1' a2'
  clear hW2
  have c2 : CT t N (W2 84) (mC t N G s).2 := by rw [w84]; exact hX
  have s2 : mC t N G s = (0, (mC t N G s).2) := Prod.ext h0 rfl
  obtain ⟨q3, hq3⟩ : ∃ q3, q3 = (mC t N G s).2 := ⟨_, rfl⟩
  rw [← hq3] at c2 s2
  have p2 := PE_fI (ci := 9) (k := 2) (c := c) (V := W2) (L := [some (vR (some 84)), some (vI (G 5 0)), some (vI v3)]) rfl (PE_lR (i := 0) rfl) k_84
  rw [c2.2.2.1] at p2
  by_cases k5 : kdF t N q3 = 5
  rotate_left
  · have eD : mD2 t N G s = flw t N (0, q3) 1 := by
      unfold mD2 ndC
      rw [s2, if_neg (fun z => k5 z.2), gO_f (by decide)]
    have nD : (mD2 t N G s).1 ≠ 0 := by rw [eD]; exact flw_1 (by decide)
    refine WW_se (WW_if (PE_cm (op := .ne) p2 PE_kI) (fun _ => WW_rtBE (EE_cB (PE_aCR (PE_lR rfl) (PE_aCI PE_kI PE_a0)) hn (cc_57 ⟨_, rfl, SQ_s ⟨_, rfl, rfl, ?_⟩⟩) (by omega))) (fun hb => absurd (kdC_4.mp (Classical.not_not.mp (of_decide_eq_false hb))) k5))
    refine fl (by rw [mE_ov nD]; exact nD) _ (d2.tr (DF_x FK_f.f7)) ?_
    rw [mE_ov nD, eD, sO_at]
    exact CS_f (by decide) c2
  have eD : mD2 t N G s = (0, nxF t N q3) := by
    unfold mD2 ndC
    rw [s2, if_pos ⟨rfl, k5⟩, gO_0]
  obtain ⟨⟨r0, r1⟩, y1, -, -, y4, -⟩ := id c2
  have nb := (nx_b (t := t) r0 r1).1
  refine WW_se (WW_if (PE_cm (op := .ne) p2 PE_kI) (fun hb => absurd (kdC_4.mpr k5) (of_decide_eq_true hb)) (fun _ => WW_sk (SQ_n ?_)))
  refine WW_se (WW_cV (PE_aCR (PE_lR rfl) PE_a0) hn (cc_58 (q := nxF t N q3) (d2.tx hg2 ht) y1 y4 (by omega) (by omega) fun X3 hf3 hX3 => ⟨rfl, SQ_n ?_⟩) (by omega))
  obtain ⟨q4, hq4⟩ : ∃ q4, q4 = nxF t N q3 := ⟨_, rfl⟩
  rw [← hq4] at eD hX3
  have eM := mE_c eD hv3.symm b3.1 b3.2
  have d3 : DF g V (sO W2 84 X3) := d2.tr (DF_x hf3.fk.f7)
  have c3 : CT t N (sO W2 84 X3 84) q4 := by rw [sO_at]; exact hX3
  have p2' := cl_f (c := c) (V := W2) (X := X3) (L := [some (vR (some 84)), some (vI (G 5 0)), some (vI v3)]) (k := 2) rfl rfl
  have p5' := cl_f (c := c) (V := W2) (X := X3) (L := [some (vR (some 84)), some (vI (G 5 0)), some (vI v3)]) (k := 5) rfl rfl
  rw [hX3.2.2.1] at p2'
  have pc := PE_and (PE_cm (op := .eq) p2' (PE_kI (z := 2))) (fun _ => PE_cm (op := .eq) p5' (PE_lI (i := 2) rfl))
  have eb : (cmB ClassFile.Cond.eq (kdC (kdF t N q4)) 2 && cmB ClassFile.Cond.eq (X3 5 0) v3) = decide (kdF t N q4 = 3 ∧ vlF t N q4 = v3) := by
    apply Bool.eq_iff_iff.mpr
    simp only [cmB, Bool.and_eq_true, decide_eq_true_eq]
    rw [kdC_2]
    constructor
    · rintro ⟨z1, z2⟩
      exact ⟨z1, by rw [← hX3.2.2.2.2.2 z1]; exact z2⟩
    · rintro ⟨z1, z2⟩
      exact ⟨z1, by rw [hX3.2.2.2.2.2 z1]; exact z2⟩
  rw [eb] at pc
  by_cases hag : kdF t N q4 = 3 ∧ vlF t N q4 = v3
  · rw [if_pos hag] at eM
    have nE : (mE t N G s).1 ≠ 0 := by rw [eM]; exact flw_1 (by decide)
    refine WW_se (WW_if pc (fun _ => WW_rtBE (EE_cB (PE_aCR (PE_lR rfl) (PE_aCI PE_kI PE_a0)) hn (cc_57 ⟨_, rfl, SQ_s ⟨_, rfl, rfl, ?_⟩⟩) (by omega))) (fun hb => absurd hag (of_decide_eq_false hb)))
    refine fl nE _ (d3.tr (DF_x FK_f.f7)) ?_
    rw [eM, sO_at]
    exact CS_f (by decide) c3
  rw [if_neg hag] at eM
  refine WW_se (WW_if pc (fun hb => absurd (of_decide_eq_true hb) hag) (fun _ => WW_sk (SQ_n ?_)))
  have h83 : sO W2 84 X3 84 8 0 = (g : Int) := by rw [d3.2 8 (by omega)]; exact h8
  have og : ∀ j, sO W2 84 X3 g j = W2 g j := fun j => by rw [sO_ne g84]
  refine cl_wa (lo := 0) (hi := G 1 0 - 1) (mv := G 5 0) rfl PE_kI (cl_d rfl hg rfl h83 (by rw [og, wk 1 (by decide), k1 1 (by decide)]; exact D1) g1.1 (by omega)) rfl g5.1 h10 hg2 hg h83 hn (by omega) rfl (d3.tx hg2 ht) c3 (fun W hW hC h0 => ?_) (fun W4 d4 c4 o4 v4 k4 a4 => ?_)
  · rw [← eM] at hC h0
    exact ⟨_, rfl, rfl, fl h0 W (d3.tr hW) hC⟩
  rw [← eM] at c4 o4
  have d34 := d3.tr d4
  refine WW_se (WW_pu rfl (PE_fP rfl (PE_lR rfl) k_84 (by rw [d34.2 8 (by omega)]; exact h8)) hg PE_kI (SQ_n (WW_rtB PE_kB ⟨_, rfl, rfl, ?_⟩)))
  have f6 : W4 g 6 0 = G 5 0 := by rw [k4 6 (by decide), og, wk 6 (by decide), k1 6 (by decide)]; exact D5
  rw [f6, zAdd_id (by omega) (by omega)]
  obtain ⟨W5, hW5⟩ : ∃ W5, W5 = sM W4 g 6 (fun _ => G 5 0 + 1) := ⟨_, rfl⟩
  rw [← hW5]
  have d5 : DF g V W5 := by rw [hW5]; exact DF_m d34 hg2 (by omega) (by omega)
  have u84 : W5 84 = W4 84 := by rw [hW5, sM, sO_ne (Ne.symm g84)]
  have u6 : W5 g 6 0 = G 5 0 + 1 := by rw [hW5, sM, sO_at, sF_at]
  have ug : ∀ j, j ≠ 6 → W5 g j = W4 g j := fun j hj => by rw [hW5, sM, sO_at, sF_ne hj]
  have ua : ∀ a, a ≠ 84 → a ≠ g → W5 a = V a := fun a b1 b2 => by rw [hW5, sM, sO_ne b2, a4 a b1 b2, sO_ne b1]; exact wa a b1 b2
  clear hW5
  have := hq W5 d5 ⟨fun _ => by rw [u84]; exact c4, fun z => absurd o4 z⟩ (fun _ => ?_)
  · rwa [decide_eq_true o4] at this
  have un : ∀ j, j ≠ 6 → j ≠ 7 → j ≠ 8 → j ≠ 9 → W5 g j = V g j := fun j j6 j7 j8 j9 => by rw [ug j j6, k4 j j9, og, wk j j8, k1 j j7]
  have up : ∀ p : Int, 0 ≤ p → p < G 4 0 → W5 (g + 13 + 4 * p.toNat) = V (g + 13 + 4 * p.toNat) := fun p p0 p1 => ua _ (by omega) (by omega)
  have u7 : W5 g 7 = gUz (V g 7) (G 5 0) (bnV t N (mA t N G s) 0 (G 0 0 - 1)) := by rw [ug 7 (by decide), k4 7 (by decide), og, wk 7 (by decide), v1, e]
  have u8 : W5 g 8 = gUz (V g 8) (G 5 0) (bnV t N (mB t N G s) 0 (G 1 0 - 1)) := by rw [ug 8 (by decide), k4 8 (by decide), og, w8, hv3]
  have u9 : W5 g 9 = gUz (V g 9) (G 5 0) (bnV t N (mD2 t N G s) 0 (G 1 0 - 1)) := by rw [ug 9 (by decide), v4, og, wk 9 (by decide), k1 9 (by decide), eD]
  refine ⟨⟨?_, ?_, ?_, ?_, ?_, u6, ?_, ?_⟩, ?_, ?_, ?_, ?_, ?_, ?_, ?_, ?_⟩
  · rw [un 0 (by decide) (by decide) (by decide) (by decide)]; exact D0
  · rw [un 1 (by decide) (by decide) (by decide) (by decide)]; exact D1
  · rw [un 2 (by decide) (by decide) (by decide) (by decide)]; exact D2
  · rw [un 3 (by decide) (by decide) (by decide) (by decide)]; exact D3
  · rw [un 4 (by decide) (by decide) (by decide) (by decide)]; exact D4
  · rw [un 10 (by decide) (by decide) (by decide) (by decide)]; exact D6
  · rw [un 13 (by decide) (by decide) (by decide) (by decide)]; exact D7
  · intro k k0 kk
    have kk : k < G 5 0 + 1 := kk
    rw [u7, u8, u9]
    show _ = gUz (G 19) (G 5 0) (bnV t N (mA t N G s) 0 (G 0 0 - 1)) k ∧ _ = gUz (G 20) (G 5 0) (bnV t N (mB t N G s) 0 (G 1 0 - 1)) k ∧ _ = gUz (G 21) (G 5 0) (bnV t N (mD2 t N G s) 0 (G 1 0 - 1)) k
    by_cases ek : k = G 5 0
    · rw [ek]; simp only [gUz_at, and_self]
    · simp only [gUz_ne ek]
      exact hmv k k0 (by omega)
  · rw [un 11 (by decide) (by decide) (by decide) (by decide), un 12 (by decide) (by decide) (by decide) (by decide)]; exact hsn
  · rw [un 14 (by decide) (by decide) (by decide) (by decide), un 15 (by decide) (by decide) (by decide) (by decide), un 16 (by decide) (by decide) (by decide) (by decide)]; exact hsy
  · intro p p0 p1
    rw [up p p0 p1]; exact hpe p p0 p1
  · intro p i p0 p1
    rw [up p p0 p1]; exact hlk p i p0 p1
  · intro p i p0 p1
    rw [up p p0 p1]; exact hst p i p0 p1
  · rw [un 17 (by decide) (by decide) (by decide) (by decide), un 18 (by decide) (by decide) (by decide) (by decide), un 19 (by decide) (by decide) (by decide) (by decide)]; exact hhr
  · intro p p0 p1
    rw [up p p0 p1]; exact hnm p p0 p1
end CMV
