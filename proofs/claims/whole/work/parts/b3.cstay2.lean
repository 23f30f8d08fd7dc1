/-! THE CLASS'S READER: stay -/
section CS2
variable {c : cT} {V : Mem} {g n n' dd : Nat} {G : oV} {R : Option gAV → cT → Mem → Prop} {t : Int → Int} {N q : Int}
theorem cc_78 {s : Int × Int} (hg2 : g = 2 ∨ g = 43) (hg : mcl c.1 g = some 4) (hpo : ∀ p : Nat, p < 7 → mcl c.1 (g + 13 + 4 * p) = some 8) (h8 : V 84 8 0 = (g : Int)) (ht : TX t N (V 0 0)) (hc : CT t N (V 84) q) (hD : DRA t N V g G) (hG : GQ G) (e : aA t N G s = (0, q)) (hq : ∀ W, DF g V W → CS t N (W 84) (aE t N G s) → ((aE t N G s).1 = 0 → DRA t N W g (aZ t N G s)) → R (some (vB (decide ((aE t N G s).1 = 0)))) c W) : CC 9 78 [vR (some 84)] c V R := by
  obtain ⟨⟨D0, D1, D2, D3, D4, D5, D6, D7⟩, hmv, hsn, hsy, hpe, hlk, hst, hhr, hnm⟩ := id hD
  obtain ⟨g0, g1, g2, g4, g5, g6, g7, g15, g17⟩ := id hG
  obtain ⟨-, -, -, -, -, -, -, -, -, w25⟩ := wK_e
  have g84 : g ≠ 84 := by omega
  have fl : (aE t N G s).1 ≠ 0 → ∀ W, DF g V W → CS t N (W 84) (aE t N G s) → R (some (vB false)) c W := fun z W hW hC => by
    have := hq W hW hC (fun y => absurd y z)
    rwa [decide_eq_false z] at this
  have xB : (aBk t N G s).1 ≠ 0 → aE t N G s = aBk t N G s := fun h => by
    have x1 : aC t N G s = aBk t N G s := by unfold aC; rw [rd_ov h]
    have x2 : aD t N G s = aBk t N G s := by unfold aD; rw [x1, nd_ov h]
    unfold aE
    rw [x2, rd_ov h]
  refine CC_of mt_78 gb_78 (by decide) (by decide) (rcb_o k_84) (Nat.le_of_ble_eq_true rfl) fun n dd hn hd => ?_
  show WW (bX9_stayLine (gOr n dd)) n [some (vR (some (84))), none, none, none] _ _ _
  unfold bX9_stayLine
  have hn0 : 1000000000 ≤ n := hn
  refine WW_se (WW_ifE (EE_not (EE_cB (PE_aCR (PE_lR rfl) PE_a0) hn (cc_70 hg hpo h8 D4 g4 hnm ht hc fun X hf hX h7 => ⟨_, rfl, fun hb => ?_, fun hb => ?_⟩) (by omega))))
  · have h : (knS t N G (0, q)).1 ≠ 0 := by simpa using hb
    have x1 : aBk t N G s = knS t N G (0, q) := by
      unfold aBk
      dsimp only
      rw [e, if_neg (fun z => h z.1), gO_ov h]
    have x2 := xB (by rw [x1]; exact h)
    exact WW_rtB PE_kB (SQ_s ⟨_, rfl, rfl, fl (by rw [x2, x1]; exact h) _ (DF_x hf) (by rw [x2, x1, sO_at]; exact hX)⟩)
  have h : (knS t N G (0, q)).1 = 0 := by simpa using hb
  obtain ⟨kn1, kn2, kn3, kn4⟩ := knS_k h
  have hX := hX.1 h
  rw [kn3] at hX
  have hX : CT t N X q := hX
  have h7 := h7 h
  have fb := fd_b (G := G) (w := wdF t N q) g4.1
  have kn2 : ¬ fdF G (wdF t N q) = -1 := kn2
  have eP : aP t N G s = fdF G (wdF t N q) := by unfold aP; rw [e, kn4]
  obtain ⟨p, hp⟩ : ∃ p, p = fdF G (wdF t N q) := ⟨_, rfl⟩
  rw [← hp] at h7 fb kn2 eP
  have p0 : 0 ≤ p := by omega
  have p4 : p < G 4 0 := by omega
  have p7 : p < 7 := by omega
  obtain ⟨o, ho⟩ : ∃ o, o = g + 13 + 4 * p.toNat := ⟨_, rfl⟩
  have og : o ≠ g := by omega
  have o84 : o ≠ 84 := by omega
  have hoc : mcl c.1 o = some 8 := by rw [ho]; exact hpo p.toNat (by omega)
  obtain ⟨st, hs'⟩ : ∃ st, st = G 15 p := ⟨_, rfl⟩
  have s9 : V o 9 0 = st := by rw [ho, hs']; exact (hpe p p0 p4).2.2.2.2.2.2
  have b15 := g15 p p0 p7
  rw [← hs'] at b15
  refine WW_sk (SQ_n ?_)
  have p7' := cl_f (c := c) (V := V) (X := X) (L := [some (vR (some 84)), none, none, none]) (k := 7) rfl rfl
  rw [h7] at p7'
  refine WW_se (WW_stR (PE_q12 (PE_fP rfl (PE_lR rfl) k_84 (by rw [sO_at, hf 8 (by omega)]; exact h8)) hg p7' p0 p7) (SQ_n ?_))
  rw [← ho]
  have p9 := PE_fI (ci := 8) (k := 9) (c := c) (V := sO V 84 X) (L := [some (vR (some 84)), some (vR (some o)), none, none]) rfl (PE_lR (i := 1) rfl) hoc
  rw [sO_ne o84, s9] at p9
  by_cases h3 : st = 3
  · have x1 : aBk t N G s = flw t N (0, q) 5 := by
      unfold aBk
      dsimp only
      rw [e, eP, kn3, if_pos ⟨rfl, by rw [← hs']; exact h3⟩, gO_f (by decide)]
    have nB1 : (aBk t N G s).1 ≠ 0 := by rw [x1]; exact flw_1 (by decide)
    have x2 := xB nB1
    refine WW_se (WW_if (PE_cm (op := .ge) p9 PE_kI) (fun _ => WW_rtBE (EE_cB (PE_aCR (PE_lR rfl) (PE_aCI PE_kI PE_a0)) hn (cc_57 ⟨_, rfl, SQ_s ⟨_, rfl, rfl, ?_⟩⟩) (by omega))) (fun hb => absurd (show st ≥ 3 by omega) (of_decide_eq_false hb)))
    refine fl (by rw [x2]; exact nB1) _ ((DF_x hf).tr (DF_x FK_f.f7)) ?_
    rw [x2, x1, sO_at]
    exact CS_f (by decide) (by rw [sO_at]; exact hX)
  refine WW_se (WW_if (PE_cm (op := .ge) p9 PE_kI) (fun hb => absurd (show st ≥ 3 from of_decide_eq_true hb) (by omega)) (fun _ => WW_sk (SQ_n ?_)))
  obtain ⟨⟨r0, r1⟩, y1, -, -, y4, -⟩ := id hX
  have nb := (nx_b (t := t) r0 r1).1
  refine WW_se (WW_cV (PE_aCR (PE_lR rfl) PE_a0) hn (cc_58 (t := t) (N := N) (q := nxF t N q) (by rw [sO_ne (by decide)]; exact ht) (by rw [sO_at]; exact y1) (by rw [sO_at]; exact y4) (by omega) (by omega) fun X3 hf3 hX3 => ⟨rfl, SQ_n ?_⟩) (by omega))
  rw [sO_at] at hf3
  rw [sO_sO]
  have eB : aBk t N G s = (0, nxF t N q) := by
    unfold aBk
    dsimp only
    rw [e, eP, kn3, if_neg (fun z => h3 (by rw [hs']; exact z.2)), gO_0]
  obtain ⟨q4, hq4⟩ : ∃ q4, q4 = nxF t N q := ⟨_, rfl⟩
  rw [← hq4] at eB hX3
  have f7a : F7 (V 84) X3 := hf.tr hf3.fk.f7
  have x7 : X3 7 0 = p := by rw [hf3 7 (by omega)]; exact h7
  obtain ⟨lo, hlo⟩ : ∃ lo, lo = aLo t N G s := ⟨_, rfl⟩
  have elo : lo = if 0 < st then G 17 (3 * p + (st - 1)) + 1 else 0 := by
    rw [hlo]
    unfold aLo
    rw [eP, eB, ← hs']
    by_cases z : 0 < st
    · rw [if_neg (by omega), if_pos z, show 3 * p + st - 1 = 3 * p + (st - 1) by omega]
    · rw [if_pos (Or.inr (by omega)), if_neg z]
  have p9 := PE_fI (ci := 8) (k := 9) (c := c) (V := sO V 84 X3) (L := [some (vR (some 84)), some (vR (some o)), none, none]) rfl (PE_lR (i := 1) rfl) hoc
  rw [sO_ne o84, s9] at p9
  have plo : PE (gIte (czC .gt (fI 8 9 (lR 1))) (o2 zAdd (aI 0 (fR 8 11 (lR 1)) (o2 zSub (fI 8 9 (lR 1)) (kI 1))) (kI 1)) (kI 0)) [some (vR (some 84)), some (vR (some o)), none, none] c (sO V 84 X3) lo := by
    have := PE_ite (u := G 17 (3 * p + (st - 1)) + 1) (v := 0) (PE_cz (op := .gt) p9) (fun hb => by
      have hb : st > 0 := of_decide_eq_true hb
      have pi := PE_o2 (f := zSub) p9 (PE_kI (z := 1))
      rw [zSub_id (by omega) (by omega)] at pi
      have pa := PE_aF (ty := 0) (ci := 8) (k := 11) rfl (by decide) (PE_lR (i := 1) rfl) hoc pi (by omega) (by omega)
      have b := g17 (3 * p + (st - 1)) (by omega) (by omega)
      rw [sO_ne o84, show V o 11 (st - 1) = G 17 (3 * p + (st - 1)) by rw [ho]; exact (hst p (st - 1) p0 p4 (by omega) (by omega)).2] at pa
      have := PE_o2 (f := zAdd) pa (PE_kI (z := 1))
      rwa [zAdd_id (by omega) (by omega)] at this) (fun _ => PE_kI)
    have ee : (if cmB ClassFile.Cond.gt st 0 = true then G 17 (3 * p + (st - 1)) + 1 else 0) = lo := by
      rw [elo]
      simp [cmB]
    rwa [ee] at this
  have lo0 : 0 ≤ lo := by
    rw [elo]
    split
    · have := g17 (3 * p + (st - 1)) (by omega) (by omega); omega
    · omega
  refine WW_se (WW_st plo (SQ_n ?_))
  have eC : aC t N G s = rdS t N (0, q4) lo (G 0 0 - 1) := by unfold aC; rw [eB, ← hlo]
  have d3 : DF g V (sO V 84 X3) := DF_x f7a
  refine WW_se (cl_w1 (V := sO V 84 X3) (lo := lo) (hi := G 0 0 - 1) (PE_lI rfl) (cl_d rfl hg rfl (by rw [d3.2 8 (by omega)]; exact h8) (by rw [sO_ne g84]; exact D0) g0.1 (by omega)) hn (by omega) rfl (d3.tx hg2 ht) (by rw [sO_at]; exact hX3) (fun X4 hf4 hX4 h0 => SQ_s ?_) (fun X4 hf4 hX4 h0 h6 => SQ_n ?_))
  · rw [← eC] at hX4 h0
    have x2 : aD t N G s = aC t N G s := by unfold aD; rw [nd_ov h0]
    have x3 : aE t N G s = aC t N G s := by unfold aE; rw [x2, rd_ov h0]
    exact ⟨_, rfl, rfl, fl (by rw [x3]; exact h0) _ (d3.tr (DF_x hf4.f7)) (by rw [x3, sO_at]; exact hX4)⟩
  have kF := rdS_k h0
  rw [← eC] at hX4 h0
  have eF : aF t N G s = vlF t N q4 := by unfold aF; rw [eB, ← hlo]; exact kF.2.2.2.2
  rw [kF.2.2.2.2, ← eF] at h6
  have rF := kF.2.2.1
  have rF : lo ≤ vlF t N q4 ∧ vlF t N q4 ≤ G 0 0 - 1 := rF
  rw [← eF] at rF
  rw [sO_at] at hf4
  rw [sO_sO]
  obtain ⟨f, hF⟩ : ∃ f, f = aF t N G s := ⟨_, rfl⟩
  rw [← hF] at h6 rF
  refine WW_se (WW_st (cl_f (k := 6) rfl rfl) (SQ_n ?_))
  rw [h6]
  have s4 : aC t N G s = (0, (aC t N G s).2) := Prod.ext h0 rfl
  have eE : aE t N G s = rdS t N (nds t N (0, (aC t N G s).2) (wK 25)) f (G 0 0 - 1) := by unfold aE aD; rw [← s4, w25, hF]
  have f7b : F7 (V 84) X4 := f7a.tr hf4.f7
  have d4 : DF g V (sO V 84 X4) := DF_x f7b
  refine WW_se (cl_wg (V := sO V 84 X4) (i := 25) (lo := f) (hi := G 0 0 - 1) (by decide) (fun X hf => PE_lI rfl) (fun X hf => cl_d rfl hg rfl (by rw [sO_at, hf 8 (by omega), sO_at, f7b 8 (by omega)]; exact h8) (by rw [sO_ne g84, sO_ne g84]; exact D0) g0.1 (by omega)) hn (by omega) rfl (d4.tx hg2 ht) (by rw [sO_at]; exact hX4) (fun X5 hf5 hX5 h05 => SQ_s ?_) (fun X5 hf5 hX5 h05 h65 => SQ_n ?_))
  · rw [← eE] at hX5 h05
    exact ⟨_, rfl, rfl, fl h05 _ (d4.tr (DF_x hf5.f7)) (by rw [sO_at]; exact hX5)⟩
  have kT := rdS_k h05
  rw [← eE] at hX5 h05
  have eT : aT t N G s = bnV t N (nds t N (0, (aC t N G s).2) (wK 25)) f (G 0 0 - 1) := by unfold aT aD; rw [← s4, w25, hF]
  rw [← eT] at h65
  have rT := kT.2.2.1
  rw [← kT.2.2.2.2, ← eT] at rT
  obtain ⟨l, hl⟩ : ∃ l, l = aT t N G s := ⟨_, rfl⟩
  rw [← hl] at h65 rT
  rw [sO_at] at hf5
  rw [sO_sO]
  have f7c : F7 (V 84) X5 := f7b.tr hf5.f7
  have d5 : DF g V (sO V 84 X5) := DF_x f7c
  have x75 : X5 7 0 = p := by rw [hf5 7 (by omega), hf4 7 (by omega)]; exact x7
  have pa7 := cl_f (c := c) (V := V) (X := X5) (L := [some (vR (some 84)), some (vR (some o)), some (vI lo), some (vI f)]) (k := 7) rfl rfl
  have pa6 := cl_f (c := c) (V := V) (X := X5) (L := [some (vR (some 84)), some (vR (some o)), some (vI lo), some (vI f)]) (k := 6) rfl rfl
  rw [x75] at pa7
  rw [h65] at pa6
  refine WW_se (WW_cV (PE_aCR (PE_fP rfl (PE_lR rfl) k_84 (by rw [sO_at, f7c 8 (by omega)]; exact h8)) (PE_aCI pa7 (PE_aCI (PE_lI rfl) (PE_aCI pa6 PE_a0)))) hn (cc_36 (st := st) ho hg hoc p0 p7 (by omega) rT.1 (by omega) (by rw [sO_ne o84]; exact s9) b15.1 (by omega) fun W wa w10 w11 w9 wo wg w17 w18 w19 => ⟨rfl, SQ_n (WW_rtB PE_kB ⟨_, rfl, rfl, ?_⟩)⟩) (by omega))
  have w84 : W 84 = X5 := by rw [wa 84 (Ne.symm g84) (Ne.symm o84), sO_at]
  rw [sO_ne o84] at w10 w11
  rw [sO_ne g84] at w18 w19
  have wgo : ∀ j, j ≠ 17 → j ≠ 18 → j ≠ 19 → W g j = V g j := fun j j1 j2 j3 => by rw [wg j j1 j2 j3, sO_ne g84]
  have woo : ∀ j, j ≠ 9 → j ≠ 10 → j ≠ 11 → W o j = V o j := fun j j1 j2 j3 => by rw [wo j j1 j2 j3, sO_ne o84]
  have waa : ∀ a, a ≠ 84 → a ≠ g → a ≠ o → W a = V a := fun a a1 a2 a3 => by rw [wa a a2 a3, sO_ne a1]
  have dW : DF g V W := ⟨fun a a1 a2 => waa a a1 (by omega) (by omega), by rw [w84]; exact f7c⟩
  have := hq W dW ⟨fun _ => by rw [w84]; exact hX5, fun z => absurd h05 z⟩ (fun _ => ?_)
  · rwa [decide_eq_true h05] at this
  have z15 : aZ t N G s 15 = gUz (G 15) p (st + 1) := by rw [hs', ← eP]; rfl
  have z16 : aZ t N G s 16 = gUz (G 16) (3 * p + st) f := by rw [hs', ← eP, hF]; rfl
  have z17 : aZ t N G s 17 = gUz (G 17) (3 * p + st) l := by rw [hs', ← eP, hl]; rfl
  obtain ⟨Z, hZ⟩ : ∃ Z, Z = aZ t N G s := ⟨_, rfl⟩
  have zo : ∀ j, j ≠ 15 → j ≠ 16 → j ≠ 17 → Z j = G j := fun j j1 j2 j3 => by
    rw [hZ]
    unfold aZ
    rw [sF_ne j1, sF_ne j3, sF_ne j2]
  rw [← hZ] at z15 z16 z17 ⊢
  clear hZ
  have up : ∀ p' : Int, 0 ≤ p' → p' ≠ p → p' < G 4 0 → W (g + 13 + 4 * p'.toNat) = V (g + 13 + 4 * p'.toNat) := fun p' a1 a2 a3 => waa _ (by omega) (by omega) (by omega)
  unfold DRA NM
  rw [zo 0 (by decide) (by decide) (by decide), zo 1 (by decide) (by decide) (by decide), zo 2 (by decide) (by decide) (by decide), zo 3 (by decide) (by decide) (by decide), zo 4 (by decide) (by decide) (by decide), zo 5 (by decide) (by decide) (by decide), zo 6 (by decide) (by decide) (by decide), zo 7 (by decide) (by decide) (by decide), zo 8 (by decide) (by decide) (by decide), zo 9 (by decide) (by decide) (by decide), zo 10 (by decide) (by decide) (by decide), zo 11 (by decide) (by decide) (by decide), zo 12 (by decide) (by decide) (by decide), zo 13 (by decide) (by decide) (by decide), zo 14 (by decide) (by decide) (by decide), zo 18 (by decide) (by decide) (by decide), zo 19 (by decide) (by decide) (by decide), zo 20 (by decide) (by decide) (by decide), zo 21 (by decide) (by decide) (by decide), zo 22 (by decide) (by decide) (by decide), zo 23 (by decide) (by decide) (by decide), zo 24 (by decide) (by decide) (by decide), zo 25 (by decide) (by decide) (by decide), zo 26 (by decide) (by decide) (by decide)]
  refine ⟨⟨?_, ?_, ?_, ?_, ?_, ?_, ?_, ?_⟩, ?_, ?_, ?_, ?_, ?_, ?_, ?_, ?_⟩
  · rw [wgo 0 (by decide) (by decide) (by decide)]; exact D0
  · rw [wgo 1 (by decide) (by decide) (by decide)]; exact D1
  · rw [wgo 2 (by decide) (by decide) (by decide)]; exact D2
  · rw [wgo 3 (by decide) (by decide) (by decide)]; exact D3
  · rw [wgo 4 (by decide) (by decide) (by decide)]; exact D4
  · rw [wgo 6 (by decide) (by decide) (by decide)]; exact D5
  · rw [wgo 10 (by decide) (by decide) (by decide)]; exact D6
  · rw [wgo 13 (by decide) (by decide) (by decide)]; exact D7
  · rw [wgo 7 (by decide) (by decide) (by decide), wgo 8 (by decide) (by decide) (by decide), wgo 9 (by decide) (by decide) (by decide)]; exact hmv
  · rw [wgo 11 (by decide) (by decide) (by decide), wgo 12 (by decide) (by decide) (by decide)]; exact hsn
  · rw [wgo 14 (by decide) (by decide) (by decide), wgo 15 (by decide) (by decide) (by decide), wgo 16 (by decide) (by decide) (by decide)]; exact hsy
  · intro p' a0 a1
    by_cases ee : p' = p
    · subst ee
      have hh := hpe p' a0 a1
      rw [← ho] at hh ⊢
      rw [woo 2 (by decide) (by decide) (by decide), woo 3 (by decide) (by decide) (by decide), woo 4 (by decide) (by decide) (by decide), woo 6 (by decide) (by decide) (by decide), woo 7 (by decide) (by decide) (by decide), woo 8 (by decide) (by decide) (by decide), w9, z15, gUz_at]
      exact ⟨hh.1, hh.2.1, hh.2.2.1, hh.2.2.2.1, hh.2.2.2.2.1, hh.2.2.2.2.2.1, rfl⟩
    · rw [up p' a0 ee a1, z15, gUz_ne ee]; exact hpe p' a0 a1
  · intro p' i a0 a1
    by_cases ee : p' = p
    · subst ee
      have hh := hlk p' i a0 a1
      rw [← ho] at hh ⊢
      rw [woo 5 (by decide) (by decide) (by decide)]
      exact hh
    · rw [up p' a0 ee a1]; exact hlk p' i a0 a1
  · intro p' i a0 a1 i0 i1
    have bp := g15 p' a0 (by omega)
    by_cases ee : p' = p
    · subst ee
      rw [← ho, w10, w11, z16, z17]
      rw [z15, gUz_at] at i1
      by_cases ei : i = st
      · rw [ei, gUz_at, gUz_at, gUz_at, gUz_at]; exact ⟨rfl, rfl⟩
      · rw [gUz_ne ei, gUz_ne ei, gUz_ne (by omega), gUz_ne (by omega)]
        have hh := hst p' i a0 a1 i0 (by omega)
        rw [← ho] at hh
        exact hh
    · rw [z15, gUz_ne ee] at i1
      rw [up p' a0 ee a1, z16, z17, gUz_ne (by omega), gUz_ne (by omega)]
      exact hst p' i a0 a1 i0 i1
  · intro d d0 d1
    obtain ⟨e17, e18, e19⟩ := hhr d d0 d1
    have hp_ := here_a (G := G) (Z := Z) (p := p) (f := f) (l := l) (d := d) (st := st) hs'.symm b15.1 (by rw [z15, gUz_at]) z16 z17
    have ho_ : ∀ p' : Int, 0 ≤ p' → p' < (7 : Nat) → p' ≠ p → hereB Z p' d = hereB G p' d ∧ comesB Z p' d = comesB G p' d ∧ goesB Z p' d = goesB G p' d := fun p' a0 a1 a2 => here_o a2 ⟨b15.1, by omega⟩ (g15 p' a0 (by omega)).2 z15 z16 z17
    refine ⟨?_, ?_, ?_⟩
    · rw [w17, sO_ne g84, e17]
      by_cases z : f ≤ d ∧ d ≤ l
      · rw [if_pos z, or7 p0 p7]
        refine bset_congr fun j j0 j1 => ?_
        by_cases ej : j = p
        · rw [ej, hp_.1, decide_eq_true z.1, decide_eq_true z.2, decide_eq_true p4]; simp
        · rw [(ho_ j j0 j1 ej).1, decide_eq_false ej, Bool.or_false]
      · rw [if_neg z]
        refine bset_congr fun j j0 j1 => ?_
        by_cases ej : j = p
        · rw [ej, hp_.1, ← Bool.decide_and, decide_eq_false z, Bool.or_false]
        · rw [(ho_ j j0 j1 ej).1]
    · rw [w18]
      by_cases z : d = f
      · rw [z, gUz_at, ← z, e18, or7 p0 p7]
        refine bset_congr fun j j0 j1 => ?_
        by_cases ej : j = p
        · rw [ej, hp_.2.1, decide_eq_true z.symm, decide_eq_true p4]; simp
        · rw [(ho_ j j0 j1 ej).2.1, decide_eq_false ej, Bool.or_false]
      · rw [gUz_ne z, e18]
        refine bset_congr fun j j0 j1 => ?_
        by_cases ej : j = p
        · rw [ej, hp_.2.1, decide_eq_false (Ne.symm z), Bool.or_false]
        · rw [(ho_ j j0 j1 ej).2.1]
    · rw [w19]
      by_cases z : d = l
      · rw [z, gUz_at, ← z, e19, or7 p0 p7]
        refine bset_congr fun j j0 j1 => ?_
        by_cases ej : j = p
        · rw [ej, hp_.2.2, decide_eq_true z.symm, decide_eq_true p4]; simp
        · rw [(ho_ j j0 j1 ej).2.2, decide_eq_false ej, Bool.or_false]
      · rw [gUz_ne z, e19]
        refine bset_congr fun j j0 j1 => ?_
        by_cases ej : j = p
        · rw [ej, hp_.2.2, decide_eq_false (Ne.symm z), Bool.or_false]
        · rw [(ho_ j j0 j1 ej).2.2]
  · intro p' a0 a1
    by_cases ee : p' = p
    · subst ee
      have hh := hnm p' a0 a1
      rw [← ho] at hh ⊢
      rw [woo 0 (by decide) (by decide) (by decide), woo 1 (by decide) (by decide) (by decide)]
      exact hh
    · rw [up p' a0 ee a1]; exact hnm p' a0 a1
end CS2
