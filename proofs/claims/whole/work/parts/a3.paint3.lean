/-! PAINTING in the class: paint -/
theorem bset_bit7 {P : Int → Bool} {p : Int} (hp : 0 ≤ p) (hp7 : p < 7) : zAnd (bset 7 P) (zShl 1 p) = 0 ↔ ¬ P p = true := by
  rw [← bset_bit hp hp7, Classical.not_not]
section PN
variable {c : cT} {V : Mem} {g : Nat} {G : oV} {R : Option gAV → cT → Mem → Prop}
theorem cc_46 (hg : mcl c.1 g = some 4) (hgr : GR V g G) (hpe : ∀ p : Nat, p < 7 → mcl c.1 (g + 13 + 4 * p) = some 8) (hG : GW G) (hq : ∀ V', (∀ a, a ≠ 299 → V' a = V a) → PT G (V' 299 2 0) (V' 299 1) → R none c V') : CC 12 46 [vR (some 299), vR (some g)] c V R := by
  have n0 : g ≠ 299 := mcl_ne hg k_299 (by decide)
  obtain ⟨y0, y1, -, -, y4, -⟩ := id hG
  have e0 : V g 0 0 = G 0 0 := hgr.1.1
  have e4 : V g 4 0 = G 4 0 := hgr.1.2.2.2.2.1
  have hh : ∀ d, 0 ≤ d → d < G 0 0 → V g 17 d = hereS G d := fun d d0 d1 => (hgr.2.2.2.2.2.2.2 d d0 d1).1
  have hml := most_le hG
  refine CC_of mt_46 gb_46 (by decide) (by decide) (rcb_o k_299) (Nat.le_of_ble_eq_true rfl) fun n dd hn hd => ?_
  show WW (bX6_paint (gOr n dd)) n [some (vR (some (299))), some (vR (some (g))), none, none] _ _ _
  unfold bX6_paint
  have hn0 : 1000000000 ≤ n := hn
  refine WW_se (WW_se (WW_se (WW_st PE_kI (SQ_n ?_))))
  have ff : ∀ f f' : Int → Int, sM (sM V 299 0 f) 299 0 f' = sM V 299 0 f' := fun f f' => sM_sM
  refine WW_for 900000000 0 (G 4 0) (fun j L1 c1 V1 => ∃ y, L1 = [some (vR (some 299)), some (vR (some g)), some (vI j), y] ∧ c1 = c ∧ ∃ M, V1 = sM V 299 0 M ∧ ∀ p q, 0 ≤ p → p < j → 0 ≤ q → q < G 4 0 → ((¬ zAnd (M p) (zShl 1 q) = 0) ↔ togB G p q = true)) (by omega) (by omega) (by omega) (by omega) ⟨none, rfl, rfl, V 299 0, by rw [sM_id], fun p q p0 p1 => by omega⟩ ?_ ?_ ?_
  · rintro j _ _ _ j0 j1 ⟨y, rfl, rfl, M, rfl, hM⟩
    exact ⟨rfl, PE_g1 rfl hg rfl (by rw [sM_o n0]; exact e4)⟩
  · rintro j k _ c _ j0 j1 hk ⟨y, rfl, rfl, M, rfl, hM⟩
    refine WW_se (WW_asF (ty := 0) (z := 0) rfl (by decide) (PE_lR rfl) k_299 (PE_lI rfl) j0 (by omega) PE_kI rfl (SQ_n (WW_se (WW_st PE_kI (SQ_n ?_)))))
    rw [sM_at, ff]
    refine WW_for 800000000 0 (G 0 0) (fun i L1 c1 V1 => L1 = [some (vR (some 299)), some (vR (some g)), some (vI j), some (vI i)] ∧ c1 = c ∧ ∃ x, V1 = sM V 299 0 (gUz M j x) ∧ ∀ q, 0 ≤ q → q < G 4 0 → ((¬ zAnd x (zShl 1 q) = 0) ↔ anyB i.toNat (fun d => hereB G j d && hereB G q d) = true)) (by omega) (by omega) (by omega) (by omega) ⟨rfl, rfl, 0, rfl, fun q q0 q1 => ⟨fun z => absurd zAnd_0 z, fun z => by cases z⟩⟩ ?_ ?_ ?_
    · rintro i _ _ _ i0 i1 ⟨rfl, rfl, x, rfl, hx⟩
      exact ⟨rfl, PE_g1 rfl hg rfl (by rw [sM_o n0]; exact e0)⟩
    · rintro i k2 _ c _ i0 i1 hk2 ⟨rfl, rfl, x, rfl, hx⟩
      have hhi : sM V 299 0 (gUz M j x) g 17 i = hereS G i := by rw [sM_o n0]; exact hh i i0 i1
      have hpe1 : ∀ {L : gLo}, L[1]? = some (some (vR (some g))) → L[3]? = some (some (vI i)) → PE (aI 0 (fR 4 17 (lR 1)) (lI 3)) L c (sM V 299 0 (gUz M j x)) (hereS G i) := fun h1 h2 => by
        have := PE_aF (ty := 0) (ci := 4) (k := 17) (V := sM V 299 0 (gUz M j x)) rfl (by decide) (PE_lR h1) hg (PE_lI h2) i0 (by omega)
        rwa [hhi] at this
      have e1 : sM V 299 0 (gUz M j x) 299 0 j = x := by rw [sM_at, gUz_at]
      have uu : ∀ x y, gUz (gUz M j x) j y = gUz M j y := fun x y => by
        funext q
        unfold gUz
        split <;> rfl
      refine WW_au0 rfl (PE_lR rfl) k_299 (PE_lI rfl) j0 (by omega) (PE_ite (PE_cz (PE_o2 (hpe1 rfl rfl) (PE_o2 PE_kI (PE_lI rfl)))) (fun _ => hpe1 rfl rfl) (fun _ => PE_kI)) (LQ_n ⟨rfl, rfl, rfl, zOr x (if cmB ClassFile.Cond.ne (zAnd (hereS G i) (zShl 1 j)) 0 = true then hereS G i else 0), by rw [e1, sM_at, ff, uu], fun q q0 q1 => ?_⟩)
      rw [zAnd_or, hx q q0 q1, anyB_s i0, Bool.or_eq_true]
      have bj := bset_bit (P := fun p => decide (p < G 4 0) && hereB G p i) j0 (by omega)
      have bq := bset_bit (P := fun p => decide (p < G 4 0) && hereB G p i) q0 (by omega)
      have j4 : j < G 4 0 := j1
      simp only [j4, q1, decide_true, Bool.true_and] at bj bq
      have ej : (cmB ClassFile.Cond.ne (zAnd (hereS G i) (zShl 1 j)) 0 = true) ↔ hereB G j i = true := by
        rw [← bj]
        exact decide_eq_true_iff
      by_cases hc : hereB G j i = true
      · rw [if_pos (ej.mpr hc)]
        have : (¬ zAnd (hereS G i) (zShl 1 q) = 0) ↔ hereB G q i = true := bq
        rw [this]
        simp [hc]
      · rw [if_neg (fun z => hc (ej.mp z))]
        have z : ¬ ¬ zAnd 0 (zShl 1 q) = 0 := fun z => z zAnd_0
        simp [hc, zAnd_0]
    · rintro _ c _ ⟨rfl, rfl, x, rfl, hx⟩
      refine LQ_n ⟨rfl, _, rfl, rfl, gUz M j x, rfl, fun p q p0 p1 q0 q1 => ?_⟩
      by_cases e : p = j
      · subst e
        rw [gUz_at]
        exact hx q q0 q1
      · rw [gUz_ne e]
        exact hM p q p0 (by omega) q0 q1
  · rintro _ c _ ⟨y, rfl, rfl, M, rfl, hM⟩
    have hgr1 : GR (sM V 299 0 M) g G := GR_ext hgr (sM_o n0) (fun p hp => sM_o (mcl_ne (hpe p hp) k_299 (by decide))) y4.2
    have hst : zMax 1 (mostF G (G 0 0).toNat) = if 1 < mostF G (G 0 0).toNat then mostF G (G 0 0).toNat else 1 := by unfold zMax; split <;> rfl
    obtain ⟨st, hst2⟩ : ∃ st : Int, st = if 1 < mostF G (G 0 0).toNat then mostF G (G 0 0).toNat else 1 := ⟨_, rfl⟩
    rw [← hst2] at hst
    have hstb : 1 ≤ st ∧ st ≤ G 4 0 ∧ (st = 1 ∨ st = mostF G (G 0 0).toNat) := by rw [hst2]; split <;> omega
    refine SQ_n (WW_se (WW_pf rfl (PE_lR rfl) k_299 (PE_o2 PE_kI (PE_cI (PE_aCR (PE_lR rfl) PE_a0) hn (pc_37 hg hgr1 hG) (by omega))) (SQ_n ?_)))
    rw [hst]
    have u0 : sM (sM V 299 0 M) 299 2 (fun _ => st) 299 0 = M := by rw [sM_k (by decide), sM_at]
    have u2 : sM (sM V 299 0 M) 299 2 (fun _ => st) 299 2 0 = st := by rw [sM_at]
    have uo : ∀ a, a ≠ 299 → sM (sM V 299 0 M) 299 2 (fun _ => st) a = V a := fun a ha => by rw [sM_o ha, sM_o ha]
    generalize sM (sM V 299 0 M) 299 2 (fun _ => st) = U at u0 u2 uo ⊢
    refine WW_wh 900000000 (fun r L1 c1 V1 => ∃ (U : Mem) (nn : Int), L1 = [some (vR (some 299)), some (vR (some g)), some (vI (G 4 0)), y] ∧ c1 = c ∧ V1 = U ∧ (∀ a, a ≠ 299 → U a = V a) ∧ U 299 0 = M ∧ U 299 2 0 = nn ∧ st ≤ nn ∧ nn ≤ G 4 0 ∧ r = (G 4 0 - nn).toNat ∧ ∀ (k : Int) f', st ≤ k → k < nn → ¬ okC G k f') ?_ (G 4 0 - st).toNat _ _ _ _ (by omega) ⟨U, st, rfl, rfl, rfl, uo, u0, u2, by omega, by omega, rfl, fun k f' k0 k1 => by omega⟩
    rintro r k _ c U hk ⟨_, nn, rfl, rfl, rfl, uo, u0, u2, h1, h2, rfl, hno⟩
    have eg4 : U g 4 0 = G 4 0 := by rw [uo g n0]; exact e4
    have hpn : PE (fI 6 2 (lR 0)) [some (vR (some 299)), some (vR (some g)), some (vI (G 4 0)), y] c U nn := by
      have := PE_fI (c := c) (ci := 6) (k := 2) (V := U) (L := [some (vR (some 299)), some (vR (some g)), some (vI (G 4 0)), y]) rfl (PE_lR (i := 0) rfl) k_299
      rwa [u2] at this
    refine EE_and (EE_not (EE_cBx hn (EE_pe (PE_aCR (PE_fA (ty := 0) rfl (by decide) (PE_lR rfl) k_299) (PE_aCR (PE_fA (ty := 0) rfl (by decide) (PE_lR rfl) k_299) (PE_aCI (PE_g1 rfl hg rfl eg4) (PE_aCI hpn (PE_aCI PE_kI PE_a0))))) ?_) (Nat.le_refl _ : dd ≤ dd)))
    refine CC_le (cc_47 hG (show 1 ≤ nn by omega) (by omega) (G 4 0 - 0).toNat rfl (by omega) (by omega) (by rw [u0]; exact fun p q p0 p1 q0 q1 => hM p q p0 p1 q0 q1) (fun q q0 q1 => by omega) ?_) (by omega)
    intro f' b hb1 hb2 hb3
    have w2 : sM U 299 1 f' 299 2 0 = nn := by rw [sM_k (by decide)]; exact u2
    have w1 : sM U 299 1 f' 299 1 = f' := by rw [sM_at]
    have w0 : sM U 299 1 f' 299 0 = M := by rw [sM_k (by decide)]; exact u0
    have wo : ∀ a, a ≠ 299 → sM U 299 1 f' a = V a := fun a ha => by rw [sM_o ha]; exact uo a ha
    generalize sM U 299 1 f' = X at w0 w1 w2 wo ⊢
    cases b with
    | true =>
      have hl := hb2 rfl
      refine ⟨true, rfl, fun _ => ⟨(fun q => by cases q), fun _ => SQ_n (WW_rtV ⟨_, rfl, rfl, hq X wo ?_⟩)⟩, (fun q => by cases q)⟩
      rw [w1, w2]
      refine ⟨by omega, by omega, hl.1.1, fun g' hg' => hl.2 g' ⟨hg', fun q q0 q1 => by omega⟩, fun k f2 k0 k1 h2' => ?_⟩
      by_cases q : st ≤ k
      · exact hno k f2 q k1 h2'
      · have := okC_crowd hG (by omega) h2'
        omega
    | false =>
      have hn2 := hb3 rfl
      have hno2 : ∀ f2, ¬ okC G nn f2 := fun f2 h2' => hn2 f2 ⟨h2', fun q q0 q1 => by omega⟩
      have hlt : nn < G 4 0 := by
        by_cases q : nn = G 4 0
        · have := hno2 (fun p => p)
          rw [q] at this
          exact absurd (okC_id hG) this
        · omega
      have xg4 : X g 4 0 = G 4 0 := by rw [wo g n0]; exact e4
      have hpx : PE (fI 6 2 (lR 0)) [some (vR (some 299)), some (vR (some g)), some (vI (G 4 0)), y] c X nn := by
        have := PE_fI (c := c) (ci := 6) (k := 2) (V := X) (L := [some (vR (some 299)), some (vR (some g)), some (vI (G 4 0)), y]) rfl (PE_lR (i := 0) rfl) k_299
        rwa [w2] at this
      refine ⟨false, rfl, (fun q => by cases q), fun _ => EE_pe (PE_cm hpx (PE_g1 rfl hg rfl xg4)) ⟨fun _ => ?_, fun hb => absurd hlt (of_decide_eq_false hb)⟩⟩
      refine WW_pu rfl (PE_lR rfl) k_299 PE_kI (LQ_n (WW_sk ⟨rfl, (G 4 0 - (nn + 1)).toNat, by omega, _, nn + 1, rfl, rfl, rfl, fun a ha => by rw [sM_o ha]; exact wo a ha, by rw [sM_k (by decide)]; exact w0, by rw [sM_at, w2, zAdd_id (by omega) (by omega)], by omega, by omega, rfl, fun k f2 k0 k1 => ?_⟩))
      by_cases q : k = nn
      · rw [q]; exact hno2 f2
      · exact hno k f2 k0 (by omega)
end PN
