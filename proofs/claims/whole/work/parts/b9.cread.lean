/-! THE CLASS'S READER: a line -/
section CRL
variable {c : cT} {V : Mem} {g : Nat} {G : oV} {R : Option gAV → cT → Mem → Prop} {t : Int → Int} {N q : Int}
theorem ln_sl : lnS t N G (0, q) = if slF t N q = 0 then gA4 t N G (0, q) else if slF t N q = 1 then pN t N G (0, q) else if slF t N q = 2 then aE t N G (0, q) else if slF t N q = 3 then mE t N G (0, q) else if slF t N q = 4 then qF t N G (0, q) else if slF t N q = 5 then yD t N G (0, q) else flw t N (0, q) 1 := by
  unfold lnS slF
  cases isW t N (0, q) (wK 26) <;> cases isW t N (0, q) (wK 31) <;> cases isW t N (0, q) (wK 32) <;> cases isW t N (0, q) (wK 33) <;> cases isW t N (0, q) (wK 34) <;> cases isW t N (0, q) (wK 35) <;> rfl
theorem lz_sl : lnZ t N G (0, q) = if slF t N q = 0 then gZg t N G (0, q) else if slF t N q = 1 then pZ t N G (0, q) else if slF t N q = 2 then aZ t N G (0, q) else if slF t N q = 3 then mZ t N G (0, q) else if slF t N q = 4 then qZ t N G (0, q) else if slF t N q = 5 then yZ t N G (0, q) else G := by
  unfold lnZ slF
  cases isW t N (0, q) (wK 26) <;> cases isW t N (0, q) (wK 31) <;> cases isW t N (0, q) (wK 32) <;> cases isW t N (0, q) (wK 33) <;> cases isW t N (0, q) (wK 34) <;> cases isW t N (0, q) (wK 35) <;> rfl
theorem ov_k {s : Int × Int} (h : s.1 ≠ 0) : knS t N G s = s := by
  unfold knS
  dsimp only
  rw [fl_ov h, ite_self, if_neg (fun z => h z.1)]
theorem ov_g {s : Int × Int} (h : (gA t N G s).1 ≠ 0) : gA4 t N G s = gA t N G s := by
  have x1 : gA1 t N G s = gA t N G s := by unfold gA1; rw [nd_ov h, rd_ov h]
  have x2 : gA2 t N G s = gA t N G s := by unfold gA2; rw [x1, nd_ov h, rd_ov h]
  have x3 : gA3 t N G s = gA t N G s := by unfold gA3; rw [x2, nd_ov h, rd_ov h]
  unfold gA4
  rw [x3, nd_ov h, rd_ov h]
theorem ov_p {s : Int × Int} (h : (pA t N G s).1 ≠ 0) : pN t N G s = pA t N G s := by
  have x1 : pB0 t N G s = pA t N G s := by unfold pB0; rw [fl_ov h, ite_self]
  have x2 : pB t N G s = pA t N G s := by unfold pB; rw [x1, if_neg (fun z => h z.1)]
  have x3 : pC t N G s = pA t N G s := by unfold pC; rw [x2, gO_ov h]
  rw [pv_C (by rw [x3]; exact h), x3]
theorem ov_a {s : Int × Int} (h : (aA t N G s).1 ≠ 0) : aE t N G s = aA t N G s := by
  have x0 : aBk t N G s = aA t N G s := by
    unfold aBk
    dsimp only
    rw [ov_k h, if_neg (fun z => h z.1), gO_ov h]
  have x1 : aC t N G s = aA t N G s := by unfold aC; rw [x0, rd_ov h]
  have x2 : aD t N G s = aA t N G s := by unfold aD; rw [x1, nd_ov h]
  unfold aE
  rw [x2, rd_ov h]
theorem ov_m {s : Int × Int} (h : (mA t N G s).1 ≠ 0) : mE t N G s = mA t N G s := by
  have x1 : mB t N G s = mA t N G s := by unfold mB; rw [rd_ov h]
  have x2 : mC t N G s = mA t N G s := by unfold mC; rw [x1, rd_ov h]
  have x3 : mD2 t N G s = mA t N G s := by unfold mD2; rw [x2, nC_ov h]
  rw [mE_ov (by rw [x3]; exact h), x3]
theorem ov_q {s : Int × Int} (h : (qA t N G s).1 ≠ 0) : qF t N G s = qA t N G s := by
  have x1 : qB t N G s = qA t N G s := by unfold qB; rw [rd_ov h]
  have x2 : qC t N G s = qA t N G s := by unfold qC; rw [x1, fl_ov h, ite_self]
  have x3 : qD t N G s = qA t N G s := by unfold qD; rw [x2, if_neg (fun z => h z.1)]
  have x4 : qE t N G s = qA t N G s := by unfold qE; rw [x3, if_neg (fun z => h z.1)]
  unfold qF
  rw [x4, gO_ov h]
theorem ov_y {s : Int × Int} (h : (yA t N G s).1 ≠ 0) : yD t N G s = yA t N G s := by
  have x1 : yB t N G s = yA t N G s := by unfold yB; rw [ov_k h, gO_ov h]
  have x2 : yC t N G s = yA t N G s := by unfold yC; rw [x1, rd_ov h]
  unfold yD
  rw [x2, rd_ov h]
theorem bg_6 {a b : Int} (h0 : G 0 0 = 0) (hab : a ≠ b) : bgS t N G (0, q) a b = flw t N (0, q) 6 := by
  unfold bgS
  dsimp only
  rw [if_neg hab, if_pos h0, gO_f (by decide)]
theorem bg_5 {a b : Int} (h0 : G 0 0 ≠ 0) (hab : a = b) : bgS t N G (0, q) a b = flw t N (0, q) 5 := by
  unfold bgS
  dsimp only
  rw [if_pos hab, if_neg h0, gO_f (by decide)]
theorem bg_0 {a b : Int} (h0 : G 0 0 ≠ 0) (hab : a ≠ b) : bgS t N G (0, q) a b = (0, nxF t N q) := by
  unfold bgS
  dsimp only
  rw [if_neg hab, if_neg h0, gO_0]
theorem DRA_x {W : Mem} (hW : ∀ a, a ≠ 84 → W a = V a) (hg2 : g = 2 ∨ g = 43) (g4 : G 4 0 ≤ 7) (h : DRA t N V g G) : DRA t N W g G := by
  obtain ⟨h1, h2, h3, h4, h5, h6, h7, h8, h9⟩ := h
  have eg : W g = V g := hW g (by omega)
  have ep : ∀ p : Int, 0 ≤ p → p < G 4 0 → W (g + 13 + 4 * p.toNat) = V (g + 13 + 4 * p.toNat) := fun p p0 p1 => hW _ (by omega)
  exact ⟨by rw [eg]; exact h1, by rw [eg]; exact h2, by rw [eg]; exact h3, by rw [eg]; exact h4, fun p p0 p1 => by rw [ep p p0 p1]; exact h5 p p0 p1, fun p i p0 p1 => by rw [ep p p0 p1]; exact h6 p i p0 p1, fun p i p0 p1 => by rw [ep p p0 p1]; exact h7 p i p0 p1, by rw [eg]; exact h8, fun p p0 p1 => by rw [ep p p0 p1]; exact h9 p p0 p1⟩
theorem cc_64 (hg2 : g = 2 ∨ g = 43) (hg : mcl c.1 g = some 4) (hpo : ∀ p : Nat, p < 7 → mcl c.1 (g + 13 + 4 * p) = some 8) (h8 : V 84 8 0 = (g : Int)) (ht : TX t N (V 0 0)) (hc : CT t N (V 84) q) (hD : DRA t N V g G) (hV : GV G) (hq : ∀ W, DF g V W → CS t N (W 84) (lnS t N G (0, q)) → ((lnS t N G (0, q)).1 = 0 → DRA t N W g (lnZ t N G (0, q))) → R (some (vB (decide ((lnS t N G (0, q)).1 = 0)))) c W) : CC 10 64 [vR (some 84)] c V R := by
  have D0 := hD.1.1
  have D4 := hD.1.2.2.2.2.1
  have D5 := hD.1.2.2.2.2.2.1
  have D6 := hD.1.2.2.2.2.2.2.1
  have D7 := hD.1.2.2.2.2.2.2.2
  have hG := hV.1
  obtain ⟨g0, g1, g2, g4, g5, g6, g7, -⟩ := id hG
  have g84 : g ≠ 84 := by omega
  have hz : G 0 0 = 0 → G 4 0 = 0 ∧ G 5 0 = 0 ∧ G 6 0 = 0 ∧ G 7 0 = 0 := fun z => by
    rcases hV.2.2 with w | w
    · exact w.2
    · have := w.1; omega
  have fl : ∀ f : Int, f ≠ 0 → lnS t N G (0, q) = flw t N (0, q) f → R (some (vB false)) c (sO V 84 (sF (sF (V 84) 9 (fun _ => f)) 10 (fun _ => V 84 3 0))) := fun f hf e => by
    have := hq _ (DF_x FK_f.f7) (by rw [e, sO_at]; exact CS_f hf hc) (fun z => by rw [e] at z; exact absurd z (flw_1 hf))
    rwa [e, decide_eq_false (flw_1 hf)] at this
  refine CC_of mt_64 gb_64 (by decide) (by decide) (rcb_o k_84) (Nat.le_of_ble_eq_true rfl) fun n dd hn hd => ?_
  show WW (bX9_readLine (gOr n dd)) n [some (vR (some (84))), none] _ _ _
  unfold bX9_readLine
  have hn0 : 1000000000 ≤ n := hn
  have pl := PE_cI (c := c) (V := V) (L := [some (vR (some 84)), none]) (PE_aCR (PE_lR (i := 0) rfl) PE_a0) hn (pc_62 ht hc) (by omega : 7 ≤ dd)
  obtain ⟨l, hl⟩ : ∃ l, l = slF t N q := ⟨_, rfl⟩
  have lb := sl_b (t := t) (N := N) (q := q)
  have hln := ln_sl (t := t) (N := N) (q := q) (G := G)
  have hlz := lz_sl (t := t) (N := N) (q := q) (G := G)
  rw [← hl] at pl lb hln hlz
  clear hl
  refine WW_se (WW_st pl (SQ_n ?_))
  have pd := PE_fI (ci := 4) (k := 0) (c := c) (V := V) (L := [some (vR (some 84)), some (vI l)]) rfl (PE_fP (ci := 9) (k := 8) rfl (PE_lR (i := 0) rfl) k_84 h8) hg
  rw [D0] at pd
  have pli : PE (lI 1) [some (vR (some 84)), some (vI l)] c V l := PE_lI rfl
  -- no line
  by_cases A : l < 0
  · have el : lnS t N G (0, q) = flw t N (0, q) 1 := by rw [hln, if_neg (by omega), if_neg (by omega), if_neg (by omega), if_neg (by omega), if_neg (by omega), if_neg (by omega)]
    exact WW_se (WW_if (PE_cz (op := .lt) pli) (fun _ => WW_rtBE (EE_cB (PE_aCR (PE_lR rfl) (PE_aCI PE_kI PE_a0)) hn (cc_57 ⟨_, rfl, SQ_s ⟨_, rfl, rfl, fl 1 (by decide) el⟩⟩) (by omega))) (fun hb => absurd A (of_decide_eq_false hb)))
  refine WW_se (WW_if (PE_cz (op := .lt) pli) (fun hb => absurd (of_decide_eq_true hb) A) (fun _ => WW_sk (SQ_n ?_)))
  -- again
  have p2 := PE_and (PE_cz (op := .eq) pli) (fun _ => PE_cz (op := .gt) pd)
  have e2 : (cmB ClassFile.Cond.eq l 0 && cmB ClassFile.Cond.gt (G 0 0) 0) = decide (l = 0 ∧ 0 < G 0 0) := by
    apply Bool.eq_iff_iff.mpr
    simp only [cmB, Bool.and_eq_true, decide_eq_true_eq] <;> omega
  rw [e2] at p2
  by_cases B : l = 0 ∧ 0 < G 0 0
  · have eA : gA t N G (0, q) = flw t N (0, q) 3 := by unfold gA; rw [if_pos B.2, gO_f (by decide)]
    have el : lnS t N G (0, q) = flw t N (0, q) 3 := by rw [hln, if_pos B.1, ov_g (by rw [eA]; exact flw_1 (by decide)), eA]
    exact WW_se (WW_if p2 (fun _ => WW_rtBE (EE_cB (PE_aCR (PE_lR rfl) (PE_aCI PE_kI PE_a0)) hn (cc_57 ⟨_, rfl, SQ_s ⟨_, rfl, rfl, fl 3 (by decide) el⟩⟩) (by omega))) (fun hb => absurd B (of_decide_eq_false hb)))
  refine WW_se (WW_if p2 (fun hb => absurd (of_decide_eq_true hb) B) (fun _ => WW_sk (SQ_n ?_)))
  -- no glass yet
  have p3 := PE_and (PE_cz (op := .ne) pli) (fun _ => PE_cz (op := .eq) pd)
  have e3 : (cmB ClassFile.Cond.ne l 0 && cmB ClassFile.Cond.eq (G 0 0) 0) = decide (l ≠ 0 ∧ G 0 0 = 0) := by
    apply Bool.eq_iff_iff.mpr
    simp only [cmB, Bool.and_eq_true, decide_eq_true_eq] <;> omega
  rw [e3] at p3
  by_cases C : l ≠ 0 ∧ G 0 0 = 0
  · obtain ⟨z4, z5, z6, z7⟩ := hz C.2
    have f6 : (flw t N (0, q) 6).1 ≠ 0 := flw_1 (by decide)
    have el : lnS t N G (0, q) = flw t N (0, q) 6 := by
      rw [hln, if_neg C.1]
      rcases (by omega : l = 1 ∨ l = 2 ∨ l = 3 ∨ l = 4 ∨ l = 5) with rfl | rfl | rfl | rfl | rfl
      · have eA : pA t N G (0, q) = flw t N (0, q) 6 := bg_6 C.2 (by omega)
        rw [if_pos rfl, ov_p (by rw [eA]; exact f6), eA]
      · have eA : aA t N G (0, q) = flw t N (0, q) 6 := bg_6 C.2 (by omega)
        rw [if_neg (by decide), if_pos rfl, ov_a (by rw [eA]; exact f6), eA]
      · have eA : mA t N G (0, q) = flw t N (0, q) 6 := bg_6 C.2 (by omega)
        rw [if_neg (by decide), if_neg (by decide), if_pos rfl, ov_m (by rw [eA]; exact f6), eA]
      · have eA : qA t N G (0, q) = flw t N (0, q) 6 := bg_6 C.2 (by omega)
        rw [if_neg (by decide), if_neg (by decide), if_neg (by decide), if_pos rfl, ov_q (by rw [eA]; exact f6), eA]
      · have eA : yA t N G (0, q) = flw t N (0, q) 6 := bg_6 C.2 (by omega)
        rw [if_neg (by decide), if_neg (by decide), if_neg (by decide), if_neg (by decide), if_pos rfl, ov_y (by rw [eA]; exact f6), eA]
    exact WW_se (WW_if p3 (fun _ => WW_rtBE (EE_cB (PE_aCR (PE_lR rfl) (PE_aCI PE_kI PE_a0)) hn (cc_57 ⟨_, rfl, SQ_s ⟨_, rfl, rfl, fl 6 (by decide) el⟩⟩) (by omega))) (fun hb => absurd C (of_decide_eq_false hb)))
  refine WW_se (WW_if p3 (fun hb => absurd (of_decide_eq_true hb) C) (fun _ => WW_sk (SQ_n ?_)))
  have hz0 : l ≠ 0 → G 0 0 ≠ 0 := fun a b => C ⟨a, b⟩
  -- room
  have p4 := PE_not (PE_cB (c := c) (V := V) (L := [some (vR (some 84)), some (vI l)]) (PE_aCR (PE_lR (i := 0) rfl) (PE_aCI pli PE_a0)) hn (pc_65 (G := G) (by omega) lb.2 hg h8 hD) (by omega : 1 ≤ dd))
  cases hr : rmB G l with
  | false =>
    have f5 : (flw t N (0, q) 5).1 ≠ 0 := flw_1 (by decide)
    have el : lnS t N G (0, q) = flw t N (0, q) 5 := by
      rcases (by omega : l = 0 ∨ l = 1 ∨ l = 2 ∨ l = 3 ∨ l = 4 ∨ l = 5) with rfl | rfl | rfl | rfl | rfl | rfl
      · have hr : true = false := hr
        cases hr
      · have hr : decide (G 4 0 < 7) = false := hr
        have hr := of_decide_eq_false hr
        have eA : pA t N G (0, q) = flw t N (0, q) 5 := bg_5 (hz0 (by decide)) (by omega)
        rw [hln, if_neg (by decide), if_pos rfl, ov_p (by rw [eA]; exact f5), eA]
      · have hr : true = false := hr
        cases hr
      · have hr : decide (G 5 0 < 10) = false := hr
        have hr := of_decide_eq_false hr
        have eA : mA t N G (0, q) = flw t N (0, q) 5 := bg_5 (hz0 (by decide)) (by omega)
        rw [hln, if_neg (by decide), if_neg (by decide), if_neg (by decide), if_pos rfl, ov_m (by rw [eA]; exact f5), eA]
      · have hr : decide (G 6 0 < 6) = false := hr
        have hr := of_decide_eq_false hr
        have eA : qA t N G (0, q) = flw t N (0, q) 5 := bg_5 (hz0 (by decide)) (by omega)
        rw [hln, if_neg (by decide), if_neg (by decide), if_neg (by decide), if_neg (by decide), if_pos rfl, ov_q (by rw [eA]; exact f5), eA]
      · have hr : decide (G 7 0 < 8) = false := hr
        have hr := of_decide_eq_false hr
        have eA : yA t N G (0, q) = flw t N (0, q) 5 := bg_5 (hz0 (by decide)) (by omega)
        rw [hln, if_neg (by decide), if_neg (by decide), if_neg (by decide), if_neg (by decide), if_neg (by decide), if_pos rfl, ov_y (by rw [eA]; exact f5), eA]
    rw [hr] at p4
    exact WW_se (WW_if p4 (fun _ => WW_rtBE (EE_cB (PE_aCR (PE_lR rfl) (PE_aCI PE_kI PE_a0)) hn (cc_57 ⟨_, rfl, SQ_s ⟨_, rfl, rfl, fl 5 (by decide) el⟩⟩) (by omega))) (fun hb => by cases hb))
  | true =>
    rw [hr] at p4
    refine WW_se (WW_if p4 (fun hb => by cases hb) (fun _ => WW_sk (SQ_n ?_)))
    obtain ⟨⟨r0, r1⟩, y1, -, -, y4, -⟩ := id hc
    have nb := (nx_b (t := t) r0 r1).1
    refine WW_se (WW_cV (PE_aCR (PE_lR rfl) PE_a0) hn (cc_58 (q := nxF t N q) ht y1 y4 (by omega) (by omega) fun X hf hX => ⟨rfl, SQ_n ?_⟩) (by omega))
    obtain ⟨W, hW⟩ : ∃ W, W = sO V 84 X := ⟨_, rfl⟩
    have dW : DF g V W := by rw [hW]; exact DF_x hf.fk.f7
    have wa : ∀ a, a ≠ 84 → W a = V a := fun a ha => by rw [hW, sO_ne ha]
    have cW : CT t N (W 84) (nxF t N q) := by rw [hW, sO_at]; exact hX
    have rD : DRA t N W g G := DRA_x wa hg2 g4.2 hD
    have r8 : W 84 8 0 = (g : Int) := by rw [dW.2 8 (by omega)]; exact h8
    have rt := dW.tx hg2 ht
    rw [← hW]
    clear hW hX hf
    have pf : ∀ {k : Nat} {x : Int}, (tab 4)[k]? = some (0, 0, 0) → V g k 0 = x → PE (fI 4 k (fR 9 8 (lR 0))) [some (vR (some 84)), some (vI l)] c W x := fun {k x} hk hx => by
      have := PE_fI (c := c) (V := W) (L := [some (vR (some 84)), some (vI l)]) hk (PE_fP (ci := 9) (k := 8) rfl (PE_lR (i := 0) rfl) k_84 r8) hg
      rwa [wa g g84, hx] at this
    refine WW_swb (PE_lI rfl) ?_
    rcases (by omega : l = 0 ∨ l = 1 ∨ l = 2 ∨ l = 3 ∨ l = 4 ∨ l = 5) with rfl | rfl | rfl | rfl | rfl | rfl
    · rw [if_pos rfl] at hln hlz
      rw [hln, hlz] at hq
      have h0 : G 0 0 = 0 := by
        have : ¬ 0 < G 0 0 := fun z => B ⟨rfl, z⟩
        omega
      have eA : gA t N G (0, q) = (0, nxF t N q) := by unfold gA; rw [if_neg (by omega), gO_0]
      exact WW_rtBE (EE_cB (PE_aCR (PE_lR rfl) PE_a0) hn (cc_71 hg2 hg r8 rt cW rD (hz h0) eA fun U hU hC hZ => ⟨_, rfl, BQ_r ⟨_, rfl, rtb_B, hq U (dW.tr hU) hC hZ⟩⟩) (by omega))
    · rw [if_neg (by decide), if_pos rfl] at hln hlz
      rw [hln, hlz] at hq
      have hr : decide (G 4 0 < 7) = true := hr
      have h7 := of_decide_eq_true hr
      have eA : pA t N G (0, q) = (0, nxF t N q) := bg_0 (hz0 (by decide)) (by omega)
      exact WW_rtBE (EE_cB (PE_aCR (PE_lR rfl) (PE_aCR (PE_q12 (PE_fP rfl (PE_lR rfl) k_84 r8) hg (pf (k := 4) rfl D4) g4.1 h7) PE_a0)) hn (cc_72 rfl hg2 hg hpo r8 rt cW rD hV h7 eA fun U hU hC hZ => ⟨_, rfl, BQ_r ⟨_, rfl, rtb_B, hq U (dW.tr hU) hC hZ⟩⟩) (by omega))
    · rw [if_neg (by decide), if_neg (by decide), if_pos rfl] at hln hlz
      rw [hln, hlz] at hq
      have eA : aA t N G (0, q) = (0, nxF t N q) := bg_0 (hz0 (by decide)) (by decide)
      exact WW_rtBE (EE_cB (PE_aCR (PE_lR rfl) PE_a0) hn (cc_78 hg2 hg hpo r8 rt cW rD hG eA fun U hU hC hZ => ⟨_, rfl, BQ_r ⟨_, rfl, rtb_B, hq U (dW.tr hU) hC hZ⟩⟩) (by omega))
    · rw [if_neg (by decide), if_neg (by decide), if_neg (by decide), if_pos rfl] at hln hlz
      rw [hln, hlz] at hq
      have hr : decide (G 5 0 < 10) = true := hr
      have h7 := of_decide_eq_true hr
      have eA : mA t N G (0, q) = (0, nxF t N q) := bg_0 (hz0 (by decide)) (by omega)
      exact WW_rtBE (EE_cB (PE_aCR (PE_lR rfl) (PE_aCI (pf (k := 6) rfl D5) PE_a0)) hn (cc_79 rfl hg2 hg r8 rt cW rD hG h7 eA fun U hU hC hZ => ⟨_, rfl, BQ_r ⟨_, rfl, rtb_B, hq U (dW.tr hU) hC hZ⟩⟩) (by omega))
    · rw [if_neg (by decide), if_neg (by decide), if_neg (by decide), if_neg (by decide), if_pos rfl] at hln hlz
      rw [hln, hlz] at hq
      have hr : decide (G 6 0 < 6) = true := hr
      have h7 := of_decide_eq_true hr
      have eA : qA t N G (0, q) = (0, nxF t N q) := bg_0 (hz0 (by decide)) (by omega)
      exact WW_rtBE (EE_cB (PE_aCR (PE_lR rfl) (PE_aCI (pf (k := 10) rfl D6) PE_a0)) hn (cc_80 rfl hg2 hg r8 rt cW rD hG h7 eA fun U hU hC hZ => ⟨_, rfl, BQ_r ⟨_, rfl, rtb_B, hq U (dW.tr hU) hC hZ⟩⟩) (by omega))
    · rw [if_neg (by decide), if_neg (by decide), if_neg (by decide), if_neg (by decide), if_neg (by decide), if_pos rfl] at hln hlz
      rw [hln, hlz] at hq
      have hr : decide (G 7 0 < 8) = true := hr
      have h7 := of_decide_eq_true hr
      have eA : yA t N G (0, q) = (0, nxF t N q) := bg_0 (hz0 (by decide)) (by omega)
      exact WW_rtBE (EE_cB (PE_aCR (PE_lR rfl) (PE_aCI (pf (k := 13) rfl D7) PE_a0)) hn (cc_81 rfl hg2 hg hpo r8 rt cW rD hG h7 eA fun U hU hC hZ => ⟨_, rfl, BQ_r ⟨_, rfl, rtb_B, hq U (dW.tr hU) hC hZ⟩⟩) (by omega))
end CRL
