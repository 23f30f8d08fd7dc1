/-! THE CLASS'S READER: all lines -/
def zG : oV := fun _ _ => 0
section CRA
variable {c : cT} {V : Mem} {g : Nat} {R : Option gAV → cT → Mem → Prop} {t : Int → Int} {N q : Int}
theorem prF_ov {P : oV × (Int × Int)} (h : P.2.1 ≠ 0) : prF t N P = P.2 := by
  have e : prE t N P = P.2 := by unfold prE; rw [if_neg (fun z => h z.1), fl_ov h]
  unfold prF
  rw [e, fl_ov h, ite_self]
theorem kdC_0 : kdC (kdF t N q) = 0 ↔ kdF t N q = 1 := by
  rcases kdF_r (t := t) (N := N) (q := q) with e | e | e | e | e | e <;> rw [e] <;> decide
theorem kdC_3 : kdC (kdF t N q) = 3 ↔ kdF t N q = 4 := by
  rcases kdF_r (t := t) (N := N) (q := q) with e | e | e | e | e | e <;> rw [e] <;> decide
theorem cc_56 (hg2 : g = 2 ∨ g = 43) (hg : mcl c.1 g = some 4) (hpo : ∀ p : Nat, p < 7 → mcl c.1 (g + 13 + 4 * p) = some 8) (ht : TX t N (V 0 0)) (hq : ∀ W, (∀ a, a ≠ 84 → a < g ∨ g + 41 ≤ a → W a = V a) → ((prF t N (prA t N (N.toNat + 1) zG (0, 0))).1 ≠ 0 → W 84 9 0 = (prF t N (prA t N (N.toNat + 1) zG (0, 0))).1 ∧ W 84 10 0 = (prF t N (prA t N (N.toNat + 1) zG (0, 0))).2) → ((prF t N (prA t N (N.toNat + 1) zG (0, 0))).1 = 0 → W 84 9 0 = 0 ∧ DRA t N W g (prA t N (N.toNat + 1) zG (0, 0)).1) → R (some (vB (decide ((prF t N (prA t N (N.toNat + 1) zG (0, 0))).1 = 0)))) c W) : CC 12 56 [vR (some 84), vI N, vR (some g)] c V R := by
  obtain ⟨n0, n1⟩ := ht.1
  have g84 : g ≠ 84 := by omega
  obtain ⟨P, hP⟩ : ∃ P, P = prA t N (N.toNat + 1) zG (0, 0) := ⟨_, rfl⟩
  rw [← hP] at hq
  have ff : ∀ (W : Mem) (s' : Int × Int), (∀ a, a ≠ 84 → a < g ∨ g + 41 ≤ a → W a = V a) → CS t N (W 84) s' → s'.1 ≠ 0 → prF t N P = s' → R (some (vB false)) c W := fun W s' hf hC h0 e => by
    have := hq W hf (fun _ => by rw [e]; exact hC.2 h0) (fun z => by rw [e] at z; exact absurd z h0)
    rwa [e, decide_eq_false h0] at this
  refine CC_of mt_56 gb_56 (by decide) (by decide) (rcb_o k_84) (Nat.le_of_ble_eq_true rfl) fun n dd hn hd => ?_
  show WW (bX9_read (gOr n dd)) n [some (vR (some (84))), some (vI (N)), some (vR (some (g))), none] _ _ _
  unfold bX9_read
  have hn0 : 1000000000 ≤ n := hn
  have pN := PE_aN (r := fR 9 0 (lR 0)) (a := 0) (p := 1) (ci := 11) (k := 0) (ty := 1) (N := 1000) (c := c) (V := V) (L := [some (vR (some 84)), some (vI N), some (vR (some g)), none]) (PE_fT rfl (PE_lR (i := 0) rfl) k_84) k_0 rfl (by decide)
  have pm := PE_o2 (f := zMin) (PE_lI (i := 1) (c := c) (V := V) (L := [some (vR (some 84)), some (vI N), some (vR (some g)), none]) rfl) pN
  have em : zMin N ((1000 : Nat) : Int) = N := by unfold zMin; rw [if_neg (by omega)]
  rw [em] at pm
  refine WW_se (WW_pf rfl (PE_lR rfl) k_84 pm (SQ_n ?_))
  refine WW_se (WW_pfP rfl (PE_lR rfl) k_84 (PE_lR rfl) (SQ_n ?_))
  obtain ⟨A, hA⟩ : ∃ A, A = sM (sM V 84 1 (fun _ => N)) 84 8 (fun _ => (g : Int)) := ⟨_, rfl⟩
  rw [← hA]
  have A1 : A 84 1 0 = N := by rw [hA, sM, sO_at, sF_ne (by decide), sM, sO_at, sF_at]
  have A8 : A 84 8 0 = (g : Int) := by rw [hA, sM, sO_at, sF_at]
  have Aa : ∀ a, a ≠ 84 → A a = V a := fun a ha => by rw [hA, sM, sO_ne ha, sM, sO_ne ha]
  clear hA pN pm em
  refine WW_se (WW_cV (PE_aCR (PE_fP rfl (PE_lR rfl) k_84 A8) PE_a0) hn (cc_35 (t := t) (N := N) (G := zG) hg (fun _ _ => rfl) fun B Bo BD => ⟨rfl, SQ_n ?_⟩) (by omega))
  have B84 : B 84 = A 84 := Bo 84 (Ne.symm g84)
  refine WW_se (WW_pf rfl (PE_lR rfl) k_84 PE_kI (SQ_n (WW_se (WW_pf rfl (PE_lR rfl) k_84 PE_kI (SQ_n ?_)))))
  obtain ⟨D, hD⟩ : ∃ D, D = sM (sM B 84 9 (fun _ => 0)) 84 4 (fun _ => 0) := ⟨_, rfl⟩
  rw [← hD]
  have D1 : D 84 1 0 = N := by rw [hD, sM, sO_at, sF_ne (by decide), sM, sO_at, sF_ne (by decide), B84]; exact A1
  have D9 : D 84 9 0 = 0 := by rw [hD, sM, sO_at, sF_ne (by decide), sM, sO_at, sF_at]
  have D4 : D 84 4 0 = 0 := by rw [hD, sM, sO_at, sF_at]
  have D8 : D 84 8 0 = (g : Int) := by rw [hD, sM, sO_at, sF_ne (by decide), sM, sO_at, sF_ne (by decide), B84]; exact A8
  have Da : ∀ a, a ≠ 84 → D a = B a := fun a ha => by rw [hD, sM, sO_ne ha, sM, sO_ne ha]
  clear hD
  have DD : DRA t N D g zG := DRA_x Da hg2 (by show (0 : Int) ≤ 7; decide) BD
  have tD : TX t N (D 0 0) := by rw [Da 0 (by decide), Bo 0 (by omega), Aa 0 (by decide)]; exact ht
  refine WW_se (WW_cV (PE_aCR (PE_lR rfl) PE_a0) hn (cc_58 (t := t) (N := N) (q := 0) tD ⟨D1, D9⟩ D4 (by omega) n0 fun X hf hX => ⟨rfl, SQ_n ?_⟩) (by omega))
  obtain ⟨E, hE⟩ : ∃ E, E = sO D 84 X := ⟨_, rfl⟩
  rw [← hE]
  have Ea : ∀ a, a ≠ 84 → a < g ∨ g + 41 ≤ a → E a = V a := fun a a1 a2 => by rw [hE, sO_ne a1, Da a a1, Bo a (by omega), Aa a a1]
  have E8 : E 84 8 0 = (g : Int) := by rw [hE, sO_at, hf 8 (by omega)]; exact D8
  have cE : CT t N (E 84) 0 := by rw [hE, sO_at]; exact hX
  have DE : DRA t N E g zG := DRA_x (fun a ha => by rw [hE, sO_ne ha]) hg2 (by show (0 : Int) ≤ 7; decide) DD
  clear hE hX hf
  refine WW_se (WW_se (WW_st PE_kI (SQ_n ?_)))
  refine WW_wh 900000000 (fun m L1 c1 V1 => ∃ (i q' : Int) (G' : oV), L1 = [some (vR (some 84)), some (vI N), some (vR (some g)), some (vI i)] ∧ c1 = c ∧ i + (m : Int) = N + 1 ∧ 1 ≤ m ∧ 0 ≤ i ∧ N - q' < m ∧ (∀ a, a ≠ 84 → a < g ∨ g + 41 ≤ a → V1 a = V a) ∧ V1 84 8 0 = (g : Int) ∧ CT t N (V1 84) q' ∧ DRA t N V1 g G' ∧ GV G' ∧ prA t N m G' (0, q') = P) ?_ (N.toNat + 1) _ _ _ _ (by omega) ⟨0, 0, zG, rfl, rfl, by omega, by omega, by omega, by omega, Ea, E8, cE, DE, GV_0 (fun _ _ => rfl), hP.symm⟩
  rintro m k1 _ c W hk1 ⟨i, q', G', rfl, rfl, hi, m1, i0, hm, wa, w8, cW, dW, vW, hpr⟩
  refine EE_pe (PE_cm (op := .le) (PE_lI (i := 3) rfl) (PE_kI (z := 1000))) ⟨fun _ => ?_, fun hb => absurd (show i ≤ 1000 by omega) (of_decide_eq_false hb)⟩
  obtain ⟨m', rfl⟩ : ∃ m', m = m' + 1 := ⟨m - 1, by omega⟩
  have tW : TX t N (W 0 0) := by rw [wa 0 (by decide) (by omega)]; exact ht
  have ep : prA t N (m' + 1) G' (0, q') = if smB t N (lnS t N G' (0, q')) = true then prA t N m' (lnZ t N G' (0, q')) (gOn t N (lnS t N G' (0, q'))) else (lnZ t N G' (0, q'), lnS t N G' (0, q')) := rfl
  rw [ep] at hpr
  refine WW_se (WW_ifE (EE_not (EE_cB (PE_aCR (PE_lR rfl) PE_a0) hn (cc_64 hg2 hg hpo w8 tW cW dW vW fun U hU hC hZ => ⟨_, rfl, fun hb => ?_, fun hb => ?_⟩) (by omega))))
  · have h1 : (lnS t N G' (0, q')).1 ≠ 0 := by simpa using hb
    have hs : smB t N (lnS t N G' (0, q')) = false := by
      cases h : smB t N (lnS t N G' (0, q')) with
      | false => rfl
      | true => exact absurd (smB_k h).1 h1
    rw [hs, if_neg (by decide)] at hpr
    refine WW_rtB PE_kB (SQ_s (LQ_r ⟨_, rfl, rfl, ff U _ (fun a a1 a2 => (hU.1 a a1 a2).trans (wa a a1 a2)) hC h1 ?_⟩))
    rw [← hpr]
    exact prF_ov h1
  have h1 : (lnS t N G' (0, q')).1 = 0 := by simpa using hb
  obtain ⟨q1, hq1⟩ : ∃ q1, q1 = (lnS t N G' (0, q')).2 := ⟨_, rfl⟩
  have s1 : lnS t N G' (0, q') = (0, q1) := Prod.ext h1 hq1.symm
  have cU := hC.1 h1
  rw [← hq1] at cU
  have dU := hZ h1
  have vU : GV (lnZ t N G' (0, q')) := GV_ln vW (fun _ => cW.1) h1
  have hmo : smB t N (lnS t N G' (0, q')) = true → q' < nxF t N q1 ∧ nxF t N q1 ≤ N := fun h => by
    have := mo_sm (s := (0, q')) h cW.1.1 cW.1.2 mo_ln
    rw [s1, gO_0] at this
    exact this.2
  obtain ⟨Z1, hZ1⟩ : ∃ Z1, Z1 = lnZ t N G' (0, q') := ⟨_, rfl⟩
  rw [← hZ1] at dU vU hpr
  rw [s1] at hpr hmo
  have fr : ∀ a, a ≠ 84 → a < g ∨ g + 41 ≤ a → U a = V a := fun a a1 a2 => (hU.1 a a1 a2).trans (wa a a1 a2)
  have u8 : U 84 8 0 = (g : Int) := by rw [hU.2 8 (by omega)]; exact w8
  have tU : TX t N (U 0 0) := hU.tx hg2 tW
  clear hC hZ hU hZ1 hq1 hb ep
  refine WW_sk (SQ_n ?_)
  have p2 := PE_fI (ci := 9) (k := 2) (c := c) (V := U) (L := [some (vR (some 84)), some (vI N), some (vR (some g)), some (vI i)]) rfl (PE_lR (i := 0) rfl) k_84
  rw [cU.2.2.1] at p2
  by_cases kE : kdF t N q1 = 1
  · have hs : smB t N (0, q1) = false := by unfold smB; rw [kE]; rfl
    rw [hs, if_neg (by decide)] at hpr
    have eE : prE t N P = (0, q1) := by rw [← hpr]; unfold prE; rw [if_pos ⟨rfl, kE⟩]
    have e4 : P.1 = Z1 := by rw [← hpr]
    have p4 := PE_fI (ci := 4) (k := 4) (c := c) (V := U) (L := [some (vR (some 84)), some (vI N), some (vR (some g)), some (vI i)]) rfl (PE_fP (ci := 9) (k := 8) rfl (PE_lR (i := 0) rfl) k_84 u8) hg
    rw [dU.1.2.2.2.2.1] at p4
    have v4 := vU.1.2.2.2.1
    by_cases z4 : Z1 4 0 > 0
    · have eF : prF t N P = (0, q1) := by unfold prF; rw [e4, if_neg (by omega), eE]
      refine WW_se (WW_if (PE_cz (op := .eq) p2) (fun _ => WW_rtBE (EE_or (EE_pe (PE_cz (op := .gt) p4) ⟨fun _ => SQ_s (LQ_r ⟨_, rfl, rfl, ?_⟩), fun hb => absurd z4 (of_decide_eq_false hb)⟩))) (fun hb => absurd (kdC_0.mpr kE) (of_decide_eq_false hb)))
      have hz : (prF t N P).1 = 0 := by rw [eF]
      have := hq U fr (fun z => absurd hz z) (fun _ => ⟨cU.2.1.2, by rw [e4]; exact dU⟩)
      rwa [decide_eq_true hz] at this
    · have eF : prF t N P = flw t N (0, q1) 6 := by unfold prF; rw [e4, if_pos (by omega), eE]
      refine WW_se (WW_if (PE_cz (op := .eq) p2) (fun _ => WW_rtBE (EE_or (EE_pe (PE_cz (op := .gt) p4) ⟨fun hb => absurd (of_decide_eq_true hb) z4, fun _ => EE_cB (PE_aCR (PE_lR rfl) (PE_aCI PE_kI PE_a0)) hn (cc_57 ⟨_, rfl, SQ_s (LQ_r ⟨_, rfl, rfl, ?_⟩)⟩) (by omega)⟩))) (fun hb => absurd (kdC_0.mpr kE) (of_decide_eq_false hb)))
      exact ff _ _ (fun a a1 a2 => by rw [sO_ne a1]; exact fr a a1 a2) (by rw [sO_at]; exact CS_f (by decide) cU) (flw_1 (by decide)) eF
  · refine WW_se (WW_if (PE_cz (op := .eq) p2) (fun hb => absurd (kdC_0.mp (of_decide_eq_true hb)) kE) (fun _ => WW_sk (SQ_n ?_)))
    by_cases k4 : kdF t N q1 = 4
    · have hs : smB t N (0, q1) = true := by unfold smB; rw [k4]; rfl
      rw [hs, if_pos rfl, gO_0] at hpr
      have hm1 := hmo hs
      refine WW_se (WW_if (PE_cm (op := .ne) p2 PE_kI) (fun hb => absurd (kdC_3.mpr k4) (of_decide_eq_true hb)) (fun _ => WW_sk (SQ_n ?_)))
      obtain ⟨⟨r0, r1⟩, y1, -, -, y4, -⟩ := id cU
      have r2 := cW.1.1
      refine WW_cV (PE_aCR (PE_lR rfl) PE_a0) hn (cc_58 (q := nxF t N q1) tU y1 y4 (by omega) hm1.2 fun X3 hf3 hX3 => ⟨rfl, LQ_n (WW_in rfl ⟨rfl, m', by omega, i + 1, nxF t N q1, Z1, ?_, rfl, by omega, by omega, by omega, by omega, fun a a1 a2 => by rw [sO_ne a1]; exact fr a a1 a2, by rw [sO_at, hf3 8 (by omega)]; exact u8, by rw [sO_at]; exact hX3, DRA_x (fun a ha => sO_ne ha) hg2 vU.1.2.2.2.1.2 dU, vU, hpr⟩)⟩) (by omega)
      rw [zAdd_id (by omega) (by omega)]
      rfl
    · have hs : smB t N (0, q1) = false := by unfold smB; simp [k4]
      rw [hs, if_neg (by decide)] at hpr
      have eE : prE t N P = flw t N (0, q1) 1 := by rw [← hpr]; unfold prE; rw [if_neg (fun z => kE z.2)]
      have eF : prF t N P = flw t N (0, q1) 1 := by unfold prF; rw [eE, fl_ov (flw_1 (by decide)), ite_self]
      refine WW_se (WW_if (PE_cm (op := .ne) p2 PE_kI) (fun _ => WW_rtBE (EE_cB (PE_aCR (PE_lR rfl) (PE_aCI PE_kI PE_a0)) hn (cc_57 ⟨_, rfl, SQ_s (LQ_r ⟨_, rfl, rfl, ?_⟩)⟩) (by omega))) (fun hb => absurd (kdC_3.mp (Classical.not_not.mp (of_decide_eq_false hb))) k4))
      exact ff _ _ (fun a a1 a2 => by rw [sO_ne a1]; exact fr a a1 a2) (by rw [sO_at]; exact CS_f (by decide) cU) (flw_1 (by decide)) eF
end CRA
