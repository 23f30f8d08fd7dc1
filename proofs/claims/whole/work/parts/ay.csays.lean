/-! THE CLASS'S READER: says -/
section CSY
variable {c : cT} {V : Mem} {g n n' dd : Nat} {G : oV} {R : Option gAV → cT → Mem → Prop} {t : Int → Int} {N q : Int}
theorem cc_81 {s : Int × Int} {mv : Int} (hm : mv = G 7 0) (hg2 : g = 2 ∨ g = 43) (hg : mcl c.1 g = some 4) (hpo : ∀ p : Nat, p < 7 → mcl c.1 (g + 13 + 4 * p) = some 8) (h8 : V 84 8 0 = (g : Int)) (ht : TX t N (V 0 0)) (hc : CT t N (V 84) q) (hD : DRA t N V g G) (hG : GQ G) (h10 : G 7 0 < 8) (e : yA t N G s = (0, q)) (hq : ∀ W, DF g V W → CS t N (W 84) (yD t N G s) → ((yD t N G s).1 = 0 → DRA t N W g (yZ t N G s)) → R (some (vB (decide ((yD t N G s).1 = 0)))) c W) : CC 9 81 [vR (some 84), vI mv] c V R := by
  obtain ⟨⟨D0, D1, D2, D3, D4, D5, D6, D7⟩, hmv, hsn, hsy, hpe, hlk, hst, hhr, hnm⟩ := id hD
  obtain ⟨g0, g1, g2, g4, g5, g6, g7, -⟩ := id hG
  have g84 : g ≠ 84 := by omega
  have fl : (yD t N G s).1 ≠ 0 → ∀ W, DF g V W → CS t N (W 84) (yD t N G s) → R (some (vB false)) c W := fun z W hW hC => by
    have := hq W hW hC (fun y => absurd y z)
    rwa [decide_eq_false z] at this
  refine CC_of mt_81 gb_81 (by decide) (by decide) (rcb_o k_84) (Nat.le_of_ble_eq_true rfl) fun n dd hn hd => ?_
  show WW (bX9_saysLine (gOr n dd)) n [some (vR (some (84))), some (vI (mv))] _ _ _
  unfold bX9_saysLine
  have hn0 : 1000000000 ≤ n := hn
  subst hm
  refine WW_se (WW_ifE (EE_not (EE_cB (PE_aCR (PE_lR rfl) PE_a0) hn (cc_70 hg hpo h8 D4 g4 hnm ht hc fun X hf hX h7 => ⟨_, rfl, fun hb => ?_, fun hb => ?_⟩) (by omega))))
  · have h : (knS t N G (0, q)).1 ≠ 0 := by simpa using hb
    have x1 : yB t N G s = knS t N G (0, q) := by unfold yB; rw [e, gO_ov h]
    have x2 : yC t N G s = knS t N G (0, q) := by unfold yC; rw [x1, rd_ov h]
    have x3 : yD t N G s = knS t N G (0, q) := by unfold yD; rw [x2, rd_ov h]
    exact WW_rtB PE_kB (SQ_s ⟨_, rfl, rfl, fl (by rw [x3]; exact h) _ (DF_x hf) (by rw [x3, sO_at]; exact hX)⟩)
  have h : (knS t N G (0, q)).1 = 0 := by simpa using hb
  obtain ⟨kn1, kn2, kn3, kn4⟩ := knS_k h
  have hX := hX.1 h
  rw [kn3] at hX
  have hX : CT t N X q := hX
  have h7 := h7 h
  refine WW_sk (SQ_n ?_)
  refine WW_se (WW_asF (ty := 0) (z := X 7 0) rfl (by decide) (PE_fP rfl (PE_lR rfl) k_84 (by rw [sO_at, hf 8 (by omega)]; exact h8)) hg (PE_lI rfl) g7.1 h10 (cl_f (k := 7) rfl rfl) rfl (SQ_n ?_))
  rw [h7]
  obtain ⟨W2, hW2⟩ : ∃ W2, W2 = sM (sO V 84 X) g 14 (gUz (sO V 84 X g 14) (G 7 0) (fdF G (wdF t N q))) := ⟨_, rfl⟩
  rw [← hW2]
  have d2 : DF g V W2 := by rw [hW2]; exact DF_m (DF_x hf) hg2 (by omega) (by omega)
  have w84 : W2 84 = X := by rw [hW2, sM, sO_ne (Ne.symm g84), sO_at]
  have w8 : W2 g 14 = gUz (V g 14) (G 7 0) (fdF G (wdF t N q)) := by rw [hW2, sM, sO_at, sF_at, sO_ne g84]
  have wk : ∀ j, j ≠ 14 → W2 g j = V g j := fun j hj => by rw [hW2, sM, sO_at, sF_ne hj, sO_ne g84]
  have wa : ∀ a, a ≠ 84 → a ≠ g → W2 a = V a := fun a a1' a2' => by rw [hW2, sM, sO_ne a2', sO_ne a1']
  clear hW2
  obtain ⟨⟨r0, r1⟩, y1, -, -, y4, -⟩ := id hX
  have nb := (nx_b (t := t) r0 r1).1
  refine WW_se (WW_cV (PE_aCR (PE_lR rfl) PE_a0) hn (cc_58 (q := nxF t N q) (d2.tx hg2 ht) (by rw [w84]; exact y1) (by rw [w84]; exact y4) (by omega) (by omega) fun X3 hf3 hX3 => ⟨rfl, SQ_n ?_⟩) (by omega))
  have eB : yB t N G s = (0, nxF t N q) := by unfold yB; rw [e, kn3, gO_0]
  obtain ⟨q4, hq4⟩ : ∃ q4, q4 = nxF t N q := ⟨_, rfl⟩
  rw [← hq4] at eB hX3
  have d3 : DF g V (sO W2 84 X3) := d2.tr (DF_x hf3.fk.f7)
  have c3 : CT t N (sO W2 84 X3 84) q4 := by rw [sO_at]; exact hX3
  have h83 : sO W2 84 X3 84 8 0 = (g : Int) := by rw [d3.2 8 (by omega)]; exact h8
  have og : ∀ j, sO W2 84 X3 g j = W2 g j := fun j => by rw [sO_ne g84]
  have eC : yC t N G s = rdS t N (0, q4) 0 (G 0 0 - 1) := by unfold yC; rw [eB]
  refine cl_wa (lo := 0) (hi := G 0 0 - 1) (mv := G 7 0) rfl PE_kI (cl_d rfl hg rfl h83 (by rw [og, wk 0 (by decide)]; exact D0) g0.1 (by omega)) rfl g7.1 h10 hg2 hg h83 hn (by omega) rfl (d3.tx hg2 ht) c3 (fun W hW hC h0 => ?_) (fun W4 d4 c4 o4 v4 k4 a4 => ?_)
  · rw [← eC] at hC h0
    have x3 : yD t N G s = yC t N G s := by unfold yD; rw [rd_ov h0]
    exact ⟨_, rfl, rfl, fl (by rw [x3]; exact h0) W (d3.tr hW) (by rw [x3]; exact hC)⟩
  rw [← eC] at c4 o4
  have s4 : yC t N G s = (0, (yC t N G s).2) := Prod.ext o4 rfl
  have eD : yD t N G s = rdS t N (0, (yC t N G s).2) 0 (G 1 0 - 1) := by unfold yD; rw [← s4]
  have d34 := d3.tr d4
  have h84 : W4 84 8 0 = (g : Int) := by rw [d34.2 8 (by omega)]; exact h8
  refine cl_wa (lo := 0) (hi := G 1 0 - 1) (mv := G 7 0) rfl PE_kI (cl_d rfl hg rfl h84 (by rw [k4 1 (by decide), og, wk 1 (by decide)]; exact D1) g1.1 (by omega)) rfl g7.1 h10 hg2 hg h84 hn (by omega) rfl (d34.tx hg2 ht) c4 (fun W hW hC h0 => ?_) (fun W6 d6 c6 o6 v6 k6 a6 => ?_)
  · rw [← eD] at hC h0
    exact ⟨_, rfl, rfl, fl h0 W (d34.tr hW) hC⟩
  rw [← eD] at c6 o6
  have d36 := d34.tr d6
  refine WW_se (WW_pu rfl (PE_fP rfl (PE_lR rfl) k_84 (by rw [d36.2 8 (by omega)]; exact h8)) hg PE_kI (SQ_n (WW_rtB PE_kB ⟨_, rfl, rfl, ?_⟩)))
  have f6 : W6 g 13 0 = G 7 0 := by rw [k6 13 (by decide), k4 13 (by decide), og, wk 13 (by decide)]; exact D7
  rw [f6, zAdd_id (by omega) (by omega)]
  obtain ⟨W5, hW5⟩ : ∃ W5, W5 = sM W6 g 13 (fun _ => G 7 0 + 1) := ⟨_, rfl⟩
  rw [← hW5]
  have d5 : DF g V W5 := by rw [hW5]; exact DF_m d36 hg2 (by omega) (by omega)
  have u84 : W5 84 = W6 84 := by rw [hW5, sM, sO_ne (Ne.symm g84)]
  have u6 : W5 g 13 0 = G 7 0 + 1 := by rw [hW5, sM, sO_at, sF_at]
  have ug : ∀ j, j ≠ 13 → W5 g j = W6 g j := fun j hj => by rw [hW5, sM, sO_at, sF_ne hj]
  have ua : ∀ a, a ≠ 84 → a ≠ g → W5 a = V a := fun a b1 b2 => by rw [hW5, sM, sO_ne b2, a6 a b1 b2, a4 a b1 b2, sO_ne b1]; exact wa a b1 b2
  clear hW5
  have := hq W5 d5 ⟨fun _ => by rw [u84]; exact c6, fun z => absurd o6 z⟩ (fun _ => ?_)
  · rwa [decide_eq_true o6] at this
  have un : ∀ j, j ≠ 13 → j ≠ 14 → j ≠ 15 → j ≠ 16 → W5 g j = V g j := fun j j6 j7 j8 j9 => by rw [ug j j6, k6 j j9, k4 j j8, og, wk j j7]
  have up : ∀ p : Int, 0 ≤ p → p < G 4 0 → W5 (g + 13 + 4 * p.toNat) = V (g + 13 + 4 * p.toNat) := fun p p0 p1 => ua _ (by omega) (by omega)
  have ekn : knV t N G (yA t N G s) = fdF G (wdF t N q) := by rw [e, kn4]
  have u7 : W5 g 14 = gUz (V g 14) (G 7 0) (knV t N G (yA t N G s)) := by rw [ug 14 (by decide), k6 14 (by decide), k4 14 (by decide), og, w8, ekn]
  have u8 : W5 g 15 = gUz (V g 15) (G 7 0) (bnV t N (yB t N G s) 0 (G 0 0 - 1)) := by rw [ug 15 (by decide), k6 15 (by decide), v4, og, wk 15 (by decide), eB]
  have u9 : W5 g 16 = gUz (V g 16) (G 7 0) (bnV t N (yC t N G s) 0 (G 1 0 - 1)) := by rw [ug 16 (by decide), v6, k4 16 (by decide), og, wk 16 (by decide), ← s4]
  refine ⟨⟨?_, ?_, ?_, ?_, ?_, ?_, ?_, u6⟩, ?_, ?_, ?_, ?_, ?_, ?_, ?_, ?_⟩
  · rw [un 0 (by decide) (by decide) (by decide) (by decide)]; exact D0
  · rw [un 1 (by decide) (by decide) (by decide) (by decide)]; exact D1
  · rw [un 2 (by decide) (by decide) (by decide) (by decide)]; exact D2
  · rw [un 3 (by decide) (by decide) (by decide) (by decide)]; exact D3
  · rw [un 4 (by decide) (by decide) (by decide) (by decide)]; exact D4
  · rw [un 6 (by decide) (by decide) (by decide) (by decide)]; exact D5
  · rw [un 10 (by decide) (by decide) (by decide) (by decide)]; exact D6
  · rw [un 7 (by decide) (by decide) (by decide) (by decide), un 8 (by decide) (by decide) (by decide) (by decide), un 9 (by decide) (by decide) (by decide) (by decide)]; exact hmv
  · rw [un 11 (by decide) (by decide) (by decide) (by decide), un 12 (by decide) (by decide) (by decide) (by decide)]; exact hsn
  · intro k k0 kk
    have kk : k < G 7 0 + 1 := kk
    rw [u7, u8, u9]
    show _ = gUz (G 24) (G 7 0) (knV t N G (yA t N G s)) k ∧ _ = gUz (G 25) (G 7 0) (bnV t N (yB t N G s) 0 (G 0 0 - 1)) k ∧ _ = gUz (G 26) (G 7 0) (bnV t N (yC t N G s) 0 (G 1 0 - 1)) k
    by_cases ek : k = G 7 0
    · rw [ek]; simp only [gUz_at, and_self]
    · simp only [gUz_ne ek]
      exact hsy k k0 (by omega)
  · intro p p0 p1
    rw [up p p0 p1]; exact hpe p p0 p1
  · intro p i p0 p1
    rw [up p p0 p1]; exact hlk p i p0 p1
  · intro p i p0 p1
    rw [up p p0 p1]; exact hst p i p0 p1
  · rw [un 17 (by decide) (by decide) (by decide) (by decide), un 18 (by decide) (by decide) (by decide) (by decide), un 19 (by decide) (by decide) (by decide) (by decide)]; exact hhr
  · intro p p0 p1
    rw [up p p0 p1]; exact hnm p p0 p1
end CSY
