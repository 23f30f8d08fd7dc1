/-! THE CLASS'S READER: seen -/
def snI (t : Int → Int) (N : Int) (G : oV) (q : Int) (f : Int → Int) (n : Nat) : Int → Int := it (fun k f => gUz f (8 * G 6 0 + k) (scF t N q k)) n f
section CSN
variable {c : cT} {V : Mem} {g n n' dd : Nat} {G : oV} {R : Option gAV → cT → Mem → Prop} {t : Int → Int} {N q : Int}
theorem sn_at {f : Int → Int} : ∀ {n : Nat} {j : Int}, snI t N G q f n j = if 8 * G 6 0 ≤ j ∧ j < 8 * G 6 0 + n then scF t N q (j - 8 * G 6 0) else f j
  | 0, j => by
    rw [if_neg (by omega)]
    rfl
  | n + 1, j => by
    have e : snI t N G q f (n + 1) = gUz (snI t N G q f n) (8 * G 6 0 + (n : Int)) (scF t N q (n : Int)) := rfl
    rw [e]
    by_cases h : j = 8 * G 6 0 + n
    · rw [h, gUz_at, if_pos (by omega)]
      have : 8 * G 6 0 + (n : Int) - 8 * G 6 0 = n := by omega
      rw [this]
    · rw [gUz_ne h, sn_at]
      by_cases z : 8 * G 6 0 ≤ j ∧ j < 8 * G 6 0 + n
      · rw [if_pos z, if_pos (by omega)]
      · rw [if_neg z, if_neg (by omega)]
theorem cc_80 {s : Int × Int} {mv : Int} (hm : mv = G 6 0) (hg2 : g = 2 ∨ g = 43) (hg : mcl c.1 g = some 4) (h8 : V 84 8 0 = (g : Int)) (ht : TX t N (V 0 0)) (hc : CT t N (V 84) q) (hD : DRA t N V g G) (hG : GQ G) (h10 : G 6 0 < 6) (e : qA t N G s = (0, q)) (hq : ∀ W, DF g V W → CS t N (W 84) (qF t N G s) → ((qF t N G s).1 = 0 → DRA t N W g (qZ t N G s)) → R (some (vB (decide ((qF t N G s).1 = 0)))) c W) : CC 4 80 [vR (some 84), vI mv] c V R := by
  obtain ⟨⟨D0, D1, D2, D3, D4, D5, D6, D7⟩, hmv, hsn, hsy, hpe, hlk, hst, hhr, hnm⟩ := id hD
  obtain ⟨g0, g1, g2, g4, g5, g6, g7, -⟩ := id hG
  have g84 : g ≠ 84 := by omega
  have fl : (qF t N G s).1 ≠ 0 → ∀ W, DF g V W → CS t N (W 84) (qF t N G s) → R (some (vB false)) c W := fun z W hW hC => by
    have := hq W hW hC (fun y => absurd y z)
    rwa [decide_eq_false z] at this
  have xE : (qD t N G s).1 ≠ 0 → qF t N G s = qD t N G s := fun h => by
    have : qE t N G s = qD t N G s := by unfold qE; rw [if_neg (fun z => h z.1)]
    unfold qF
    rw [this, gO_ov h]
  have xD : (qC t N G s).1 ≠ 0 → qF t N G s = qC t N G s := fun h => by
    have : qD t N G s = qC t N G s := by unfold qD; rw [if_neg (fun z => h z.1)]
    rw [xE (by rw [this]; exact h), this]
  refine CC_of mt_80 gb_80 (by decide) (by decide) (rcb_o k_84) (Nat.le_of_ble_eq_true rfl) fun n dd hn hd => ?_
  show WW (bX9_seenLine (gOr n dd)) n [some (vR (some (84))), some (vI (mv)), none, none, none] _ _ _
  unfold bX9_seenLine
  have hn0 : 1000000000 ≤ n := hn
  subst hm
  have eB : qB t N G s = rdS t N (0, q) 0 (G 0 0 - 1) := by unfold qB; rw [e]
  refine cl_wa (lo := 0) (hi := G 0 0 - 1) (mv := G 6 0) rfl PE_kI (cl_d rfl hg rfl h8 D0 g0.1 (by omega)) rfl g6.1 h10 hg2 hg h8 hn (by omega) rfl ht hc (fun W hW hC h0 => ?_) (fun W1 d1 c1 o1 v1 k1 a1 => ?_)
  · rw [← eB] at hC h0
    have x1 : qC t N G s = qB t N G s := by
      unfold qC
      rw [if_pos (fun z => h0 z.1)]
      unfold flw
      rw [if_neg h0]
    have x2 := xD (by rw [x1]; exact h0)
    exact ⟨_, rfl, rfl, fl (by rw [x2, x1]; exact h0) W hW (by rw [x2, x1]; exact hC)⟩
  rw [← eB] at c1 o1
  have s1 : qB t N G s = (0, (qB t N G s).2) := Prod.ext o1 rfl
  obtain ⟨q3, hq3⟩ : ∃ q3, q3 = (qB t N G s).2 := ⟨_, rfl⟩
  rw [← hq3] at c1 s1
  obtain ⟨⟨r0, r1⟩, y1, y2, y3, y4, -⟩ := id c1
  obtain ⟨n0, n1⟩ := ht.1
  have nb := nx_b (t := t) r0 r1
  have h81 : W1 84 8 0 = (g : Int) := by rw [d1.2 8 (by omega)]; exact h8
  have p2 := PE_fI (ci := 9) (k := 2) (c := c) (V := W1) (L := [some (vR (some 84)), some (vI (G 6 0)), none, none, none]) rfl (PE_lR (i := 0) rfl) k_84
  have p3 := PE_fI (ci := 9) (k := 3) (c := c) (V := W1) (L := [some (vR (some 84)), some (vI (G 6 0)), none, none, none]) rfl (PE_lR (i := 0) rfl) k_84
  have p4 := PE_fI (ci := 9) (k := 4) (c := c) (V := W1) (L := [some (vR (some 84)), some (vI (G 6 0)), none, none, none]) rfl (PE_lR (i := 0) rfl) k_84
  have pg := PE_fI (ci := 4) (k := 1) (c := c) (V := W1) (L := [some (vR (some 84)), some (vI (G 6 0)), none, none, none]) rfl (PE_fP (ci := 9) (k := 8) rfl (PE_lR (i := 0) rfl) k_84 h81) hg
  rw [y2] at p2
  rw [y3] at p3
  rw [y4] at p4
  rw [k1 1 (by decide), D1] at pg
  by_cases k2 : kdF t N q3 = 2
  rotate_left
  · have eC : qC t N G s = flw t N (0, q3) 1 := by
      unfold qC
      rw [s1, if_pos (fun z => k2 z.2)]
    have nC : (qC t N G s).1 ≠ 0 := by rw [eC]; exact flw_1 (by decide)
    refine WW_se (WW_if (PE_cm (op := .ne) p2 PE_kI) (fun _ => WW_rtBE (EE_cB (PE_aCR (PE_lR rfl) (PE_aCI PE_kI PE_a0)) hn (cc_57 ⟨_, rfl, SQ_s ⟨_, rfl, rfl, ?_⟩⟩) (by omega))) (fun hb => absurd (kdC_1.mp (Classical.not_not.mp (of_decide_eq_false hb))) k2))
    refine fl (by rw [xD nC]; exact nC) _ (d1.tr (DF_x FK_f.f7)) ?_
    rw [xD nC, eC, sO_at]
    exact CS_f (by decide) c1
  have eC : qC t N G s = (0, q3) := by
    unfold qC
    rw [s1, if_neg (fun z => z ⟨rfl, k2⟩)]
  obtain ⟨b1, b2, b3, b4⟩ := kd_2 r0 r1 k2
  refine WW_se (WW_if (PE_cm (op := .ne) p2 PE_kI) (fun hb => absurd (kdC_1.mpr k2) (of_decide_eq_true hb)) (fun _ => WW_sk (SQ_n ?_)))
  have pl := PE_cm (op := .ne) (PE_o2 (f := zSub) p4 p3) pg
  rw [zSub_id (by omega) (by omega)] at pl
  by_cases hl : (lnF t N q3 : Int) = G 1 0
  rotate_left
  · have eD : qD t N G s = flw t N (0, q3) 7 := by
      unfold qD
      rw [eC, if_pos ⟨rfl, hl⟩]
    have nD : (qD t N G s).1 ≠ 0 := by rw [eD]; exact flw_1 (by decide)
    refine WW_se (WW_if pl (fun _ => WW_rtBE (EE_cB (PE_aCR (PE_lR rfl) (PE_aCI PE_kI PE_a0)) hn (cc_57 ⟨_, rfl, SQ_s ⟨_, rfl, rfl, ?_⟩⟩) (by omega))) (fun hb => absurd (show (lnF t N q3 : Int) = G 1 0 by have := Classical.not_not.mp (of_decide_eq_false hb); omega) hl))
    refine fl (by rw [xE nD]; exact nD) _ (d1.tr (DF_x FK_f.f7)) ?_
    rw [xE nD, eD, sO_at]
    exact CS_f (by decide) c1
  have eD : qD t N G s = (0, q3) := by
    unfold qD
    rw [eC, if_neg (fun z => z.2 hl)]
  have eE : qE t N G s = if anyB (G 1 0).toNat (fun k => !(sokB t N G q3 k)) = true then flw t N (0, q3) 7 else (0, q3) := by
    unfold qE
    rw [eD]
    simp only [true_and]
  refine WW_se (WW_if pl (fun hb => absurd (show nxF t N q3 - stF t N q3 = G 1 0 by omega) (of_decide_eq_true hb)) (fun _ => WW_sk (SQ_n ?_)))
  clear pl p2 p3 p4 pg
  refine WW_se (WW_se (WW_st PE_kI (SQ_n ?_)))
  refine WW_for 900000000 0 (G 1 0) (fun k L1 c1 V1 => ∃ (z3 z4 : Option gAV), L1 = [some (vR (some 84)), some (vI (G 6 0)), some (vI k), z3, z4] ∧ c1 = c ∧ V1 84 = W1 84 ∧ V1 g 12 = snI t N G q3 (V g 12) k.toNat ∧ (∀ j, j ≠ 12 → V1 g j = W1 g j) ∧ (∀ a, a ≠ 84 → a ≠ g → V1 a = W1 a) ∧ ∀ j : Int, 0 ≤ j → j < k → sokB t N G q3 j = true) (by omega) (by omega) (by omega) (by omega) ⟨none, none, rfl, rfl, rfl, by rw [k1 12 (by decide)]; rfl, fun _ _ => rfl, fun _ _ _ => rfl, fun j j0 j1 => by omega⟩ ?_ ?_ ?_
  · rintro k _ c W k0 kk ⟨z3, z4, rfl, rfl, w84, w12, wk, wa, hok⟩
    have pg := PE_fI (ci := 4) (k := 1) (c := c) (V := W) (L := [some (vR (some 84)), some (vI (G 6 0)), some (vI k), z3, z4]) rfl (PE_fP (ci := 9) (k := 8) rfl (PE_lR (i := 0) rfl) k_84 (by rw [w84]; exact h81)) hg
    rw [wk 1 (by decide), k1 1 (by decide), D1] at pg
    exact ⟨rfl, pg⟩
  · rintro k k' _ c W k0 kk hk' ⟨z3, z4, rfl, rfl, w84, w12, wk, wa, hok⟩
    have hw8 : W 84 8 0 = (g : Int) := by rw [w84]; exact h81
    have cW : CT t N (W 84) q3 := by rw [w84]; exact c1
    have tW : TX t N (W 0 0) := by rw [wa 0 (by decide) (by omega)]; exact d1.tx hg2 ht
    have dW : DF g V W := d1.tr ⟨fun a b1 b2 => wa a b1 (by omega), by rw [w84]; exact fun _ _ => rfl⟩
    have hlet := b4 k k0 (by omega)
    have ptx : ∀ {L : gLo}, L[0]? = some (some (vR (some 84))) → L[2]? = some (some (vI k)) → PE (aI 1 (fR 9 0 (lR 0)) (o2 zAdd (fI 9 3 (lR 0)) (lI 2))) L c W (t (stF t N q3 + k)) := fun {L} hl0 hl2 => by
      have p3 := PE_fI (ci := 9) (k := 3) (c := c) (V := W) (L := L) rfl (PE_lR hl0) k_84
      rw [w84, y3] at p3
      have pi := PE_o2 (f := zAdd) p3 (PE_lI hl2)
      rw [zAdd_id (by omega) (by omega)] at pi
      have pt := PE_aT (PE_lR hl0) k_84 pi (by omega) (by omega)
      rwa [(tW.2 (stF t N q3 + k) (by omega) (by omega)).1] at pt
    refine WW_se (WW_st (PE_o2 (f := zSub) (ptx rfl rfl) PE_kI) (SQ_n ?_))
    rw [zSub_id (by omega) (by omega)]
    refine WW_se (WW_stB (PE_cm (op := .eq) (ptx rfl rfl) PE_kI) (SQ_n ?_))
    have p2g := PE_fI (ci := 4) (k := 2) (c := c) (V := W) (L := [some (vR (some 84)), some (vI (G 6 0)), some (vI k), some (vI (t (stF t N q3 + k) - 97)), some (vB (cmB ClassFile.Cond.eq (t (stF t N q3 + k)) 122))]) rfl (PE_fP (ci := 9) (k := 8) rfl (PE_lR (i := 0) rfl) k_84 hw8) hg
    rw [wk 2 (by decide), k1 2 (by decide), D2] at p2g
    have pc := PE_and (PE_not (PE_lB (i := 4) (b := cmB ClassFile.Cond.eq (t (stF t N q3 + k)) 122) rfl)) (fun _ => PE_cm (op := .ge) (PE_lI (i := 3) rfl) p2g)
    have eb : (!(cmB ClassFile.Cond.eq (t (stF t N q3 + k)) 122) && cmB ClassFile.Cond.ge (t (stF t N q3 + k) - 97) (G 2 0)) = !(sokB t N G q3 k) := by
      unfold sokB
      apply Bool.eq_iff_iff.mpr
      simp only [cmB, Bool.and_eq_true, Bool.not_eq_true', Bool.or_eq_false_iff, Bool.and_eq_false_iff, decide_eq_true_eq, decide_eq_false_iff_not]
      omega
    rw [eb] at pc
    by_cases hsk : sokB t N G q3 k = true
    · rw [hsk] at pc
      refine WW_se (WW_if pc (fun z => by cases z) (fun _ => WW_sk (SQ_n ?_)))
      have ei : zAdd (zMul (G 6 0) 8) k = 8 * G 6 0 + k := by rw [zMul_id (by omega) (by omega), zAdd_id (by omega) (by omega)]; omega
      have esc : (if cmB ClassFile.Cond.eq (t (stF t N q3 + k)) 122 = true then -2 else t (stF t N q3 + k) - 97) = scF t N q3 k := by
        unfold scF
        simp [cmB]
      have pe := PE_ite (u := (-2 : Int)) (v := t (stF t N q3 + k) - 97) (PE_lB (c := c) (V := W) (L := [some (vR (some 84)), some (vI (G 6 0)), some (vI k), some (vI (t (stF t N q3 + k) - 97)), some (vB (cmB ClassFile.Cond.eq (t (stF t N q3 + k)) 122))]) (i := 4) (b := cmB ClassFile.Cond.eq (t (stF t N q3 + k)) 122) rfl) (fun _ => PE_kI) (fun _ => PE_lI (i := 3) rfl)
      rw [esc] at pe
      have pix := PE_o2 (f := zAdd) (PE_o2 (f := zMul) (PE_lI (c := c) (V := W) (L := [some (vR (some 84)), some (vI (G 6 0)), some (vI k), some (vI (t (stF t N q3 + k) - 97)), some (vB (cmB ClassFile.Cond.eq (t (stF t N q3 + k)) 122))]) (i := 1) rfl) (PE_kI (z := 8))) (PE_lI (i := 2) rfl)
      rw [ei] at pix
      refine WW_asF (ty := 0) (z := scF t N q3 k) rfl (by decide) (PE_fP rfl (PE_lR rfl) k_84 hw8) hg pix (by omega) (by omega) pe rfl (LQ_n ⟨rfl, _, _, rfl, rfl, ?_, ?_, ?_, ?_, ?_⟩)
      · rw [sM, sO_ne (Ne.symm g84)]; exact w84
      · have nx : snI t N G q3 (V g 12) (k + 1).toNat = gUz (snI t N G q3 (V g 12) k.toNat) (8 * G 6 0 + k) (scF t N q3 k) := it_s k0
        rw [sM, sO_at, sF_at, w12, nx]
      · intro j hj
        rw [sM, sO_at, sF_ne hj]; exact wk j hj
      · intro a b1 b2
        rw [sM, sO_ne b2]; exact wa a b1 b2
      · intro j j0 j1
        by_cases ee : j = k
        · rw [ee]; exact hsk
        · exact hok j j0 (by omega)
    · have hsf : sokB t N G q3 k = false := by simpa using hsk
      rw [hsf] at pc
      have eEf : qE t N G s = flw t N (0, q3) 7 := by rw [eE, if_pos (anyB_iff.mpr ⟨k, k0, by omega, by rw [hsf]; rfl⟩)]
      have eFf : qF t N G s = flw t N (0, q3) 7 := by unfold qF; rw [eEf, gO_f (by decide)]
      refine WW_se (WW_if pc (fun _ => WW_rtBE (EE_cB (PE_aCR (PE_lR rfl) (PE_aCI PE_kI PE_a0)) hn (cc_57 ⟨_, rfl, SQ_s (LQ_r (SQ_s ⟨_, rfl, rfl, ?_⟩))⟩) (by omega))) (fun z => by cases z))
      refine fl (by rw [eFf]; exact flw_1 (by decide)) _ (dW.tr (DF_x FK_f.f7)) ?_
      rw [eFf, sO_at]
      exact CS_f (by decide) cW
  · rintro _ c W ⟨z3, z4, rfl, rfl, w84, w12, wk, wa, hok⟩
    have hw8 : W 84 8 0 = (g : Int) := by rw [w84]; exact h81
    have tW : TX t N (W 0 0) := by rw [wa 0 (by decide) (by omega)]; exact d1.tx hg2 ht
    have dW : DF g V W := d1.tr ⟨fun a b1 b2 => wa a b1 (by omega), by rw [w84]; exact fun _ _ => rfl⟩
    have eEt : qE t N G s = (0, q3) := by
      rw [eE, if_neg]
      intro z
      obtain ⟨j, j0, j1, j2⟩ := anyB_iff.mp z
      rw [hok j j0 (by omega)] at j2
      cases j2
    have eFt : qF t N G s = (0, nxF t N q3) := by unfold qF; rw [eEt, gO_0]
    refine SQ_n (WW_se (WW_cV (PE_aCR (PE_lR rfl) PE_a0) hn (cc_58 (q := nxF t N q3) tW (by rw [w84]; exact y1) (by rw [w84]; exact y4) (by omega) (by omega) fun X3 hf3 hX3 => ⟨rfl, SQ_n ?_⟩) (by omega)))
    have d3 : DF g V (sO W 84 X3) := dW.tr (DF_x hf3.fk.f7)
    refine WW_se (WW_pu rfl (PE_fP rfl (PE_lR rfl) k_84 (by rw [d3.2 8 (by omega)]; exact h8)) hg PE_kI (SQ_n (WW_rtB PE_kB ⟨_, rfl, rfl, ?_⟩)))
    have f6 : sO W 84 X3 g 10 0 = G 6 0 := by rw [sO_ne g84, wk 10 (by decide), k1 10 (by decide)]; exact D6
    rw [f6, zAdd_id (by omega) (by omega)]
    obtain ⟨W5, hW5⟩ : ∃ W5, W5 = sM (sO W 84 X3) g 10 (fun _ => G 6 0 + 1) := ⟨_, rfl⟩
    rw [← hW5]
    have d5 : DF g V W5 := by rw [hW5]; exact DF_m d3 hg2 (by omega) (by omega)
    have u84 : W5 84 = X3 := by rw [hW5, sM, sO_ne (Ne.symm g84), sO_at]
    have u6 : W5 g 10 0 = G 6 0 + 1 := by rw [hW5, sM, sO_at, sF_at]
    have ug : ∀ j, j ≠ 10 → W5 g j = W g j := fun j hj => by rw [hW5, sM, sO_at, sF_ne hj, sO_ne g84]
    have ua : ∀ a, a ≠ 84 → a ≠ g → W5 a = V a := fun a b1 b2 => by rw [hW5, sM, sO_ne b2, sO_ne b1, wa a b1 b2]; exact a1 a b1 b2
    clear hW5
    have o6 : (qF t N G s).1 = 0 := by rw [eFt]
    have := hq W5 d5 ⟨fun _ => by rw [u84, eFt]; exact hX3, fun z => absurd o6 z⟩ (fun _ => ?_)
    · rwa [decide_eq_true o6] at this
    have un : ∀ j, j ≠ 10 → j ≠ 11 → j ≠ 12 → W5 g j = V g j := fun j j6 j7 j8 => by rw [ug j j6, wk j j8, k1 j j7]
    have up : ∀ p : Int, 0 ≤ p → p < G 4 0 → W5 (g + 13 + 4 * p.toNat) = V (g + 13 + 4 * p.toNat) := fun p p0 p1 => ua _ (by omega) (by omega)
    have u7 : W5 g 11 = gUz (V g 11) (G 6 0) (bnV t N (qA t N G s) 0 (G 0 0 - 1)) := by rw [ug 11 (by decide), wk 11 (by decide), v1, e]
    have u8 : W5 g 12 = snI t N G q3 (V g 12) (G 1 0).toNat := by rw [ug 12 (by decide), w12]
    have z23 : qZ t N G s 23 = snI t N G (qD t N G s).2 (G 23) (G 1 0).toNat := rfl
    rw [eD] at z23
    have z22 : qZ t N G s 22 = gUz (G 22) (G 6 0) (bnV t N (qA t N G s) 0 (G 0 0 - 1)) := rfl
    have z1 : qZ t N G s 1 = G 1 := rfl
    refine ⟨⟨?_, ?_, ?_, ?_, ?_, ?_, u6, ?_⟩, ?_, ?_, ?_, ?_, ?_, ?_, ?_, ?_⟩
    · rw [un 0 (by decide) (by decide) (by decide)]; exact D0
    · rw [un 1 (by decide) (by decide) (by decide)]; exact D1
    · rw [un 2 (by decide) (by decide) (by decide)]; exact D2
    · rw [un 3 (by decide) (by decide) (by decide)]; exact D3
    · rw [un 4 (by decide) (by decide) (by decide)]; exact D4
    · rw [un 6 (by decide) (by decide) (by decide)]; exact D5
    · rw [un 13 (by decide) (by decide) (by decide)]; exact D7
    · rw [un 7 (by decide) (by decide) (by decide), un 8 (by decide) (by decide) (by decide), un 9 (by decide) (by decide) (by decide)]; exact hmv
    · intro k k0 kk
      have kk : k < G 6 0 + 1 := kk
      rw [u7, u8, z22, z23, z1]
      by_cases ek : k = G 6 0
      · refine ⟨by rw [ek, gUz_at, gUz_at], fun i i0 i1 => ?_⟩
        rw [sn_at, sn_at, if_pos (by omega), if_pos (by omega)]
      · refine ⟨by rw [gUz_ne ek, gUz_ne ek]; exact (hsn k k0 (by omega)).1, fun i i0 i1 => ?_⟩
        rw [sn_at, sn_at, if_neg (by omega), if_neg (by omega)]
        exact (hsn k k0 (by omega)).2 i i0 i1
    · rw [un 14 (by decide) (by decide) (by decide), un 15 (by decide) (by decide) (by decide), un 16 (by decide) (by decide) (by decide)]; exact hsy
    · intro p p0 p1
      rw [up p p0 p1]; exact hpe p p0 p1
    · intro p i p0 p1
      rw [up p p0 p1]; exact hlk p i p0 p1
    · intro p i p0 p1
      rw [up p p0 p1]; exact hst p i p0 p1
    · rw [un 17 (by decide) (by decide) (by decide), un 18 (by decide) (by decide) (by decide), un 19 (by decide) (by decide) (by decide)]; exact hhr
    · intro p p0 p1
      rw [up p p0 p1]; exact hnm p p0 p1
end CSN
