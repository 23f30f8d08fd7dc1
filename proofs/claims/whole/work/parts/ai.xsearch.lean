/-! EXPLANATIONS in the class: endsRight, search -/
section ER
variable {c : cT} {V : Mem} {g w : Nat} {G : oV} {v : Int → Int} {R : Option gAV → cT → Mem → Prop}
theorem rgt_late {G : oV} {f : Int → Int} {j : Int} (hG : GW G) (hj : lstF G (G 6 0).toNat < j) : rgt G f j = true := by
  have y6 := hG.2.2.2.2.2.2.1
  refine rgt_iff.mpr fun s k s0 s1 hs => ?_
  have := (lstF_b hG (n := (G 6 0).toNat) (by omega)).2 s s0 (by omega)
  omega
/-- an evening is right by the course -/
theorem rgt_K {K S : oV} {j : Int} (hG : GW G) (h : CK K S) (hw : ∀ k, 0 ≤ k → k < 8 → S 31 k = -2 ∨ (0 ≤ S 31 k ∧ S 31 k < S 35 0)) : rgt G (kTint K) j = rgt G (colS S) j := by
  have y1 := hG.2.1
  exact rgt_cg fun k k0 k1 => kTint_colS h (hw k k0 (by omega)) k0 (by omega)
theorem CK_70 {K S : oV} {d e : Int} (h : CK K S) (hi : DI G S d e) (hd : d ≤ 29) : ∀ k, 0 ≤ k → k < 8 → K 2 k < 70 := fun k k0 k1 => by
  have := IV_cap hi.1 hd
  rw [h.2.1 k k0 k1]
  have := hi.1.1.2.1 k k0 k1
  omega
theorem cc_32 {T : oV} {d a b : Int} (h : EN c V 280 g w G v) (hG : GW G) (hvb : VB G v) (hvw : VW G (T 18)) (hv : VE G v T) (hM : MM G d a b) (hT : MTv T d a b) (hd0 : 0 ≤ d) (hd1 : d ≤ lstF G (G 6 0).toNat) (hck : CK (V 280) (mX G d (daysF G T d.toNat))) (hq : ∀ (K' : oV) (B : Bool), K01 (V 280) K' → KA (V 280) K' → (∀ q, 0 ≤ q → q < V 280 8 0 → K' 9 q = V 280 9 q ∧ K' 10 q = V 280 10 q ∧ K' 11 q = V 280 11 q) → (B = true ↔ ∀ j, d ≤ j → j ≤ lstF G (G 6 0).toNat → rgt G (colS (eX G j (daysF G T j.toNat))) j = true) → R (some (vB B)) c (sO V 280 K')) : CC 7 32 [vR (some 279), vR (some g), vI d, vI (lstF G (G 6 0).toNat)] c V R := by
  obtain ⟨y0, y1, -, -, y4, -, y6, -⟩ := id hG
  have hl := (lstF_b hG (n := (G 6 0).toNat) (by omega)).1
  obtain ⟨l, hll⟩ : ∃ l, l = lstF G (G 6 0).toNat := ⟨_, rfl⟩
  rw [← hll] at hd1 hq hl ⊢
  have hgc := h.1.2.1
  have ng : g ≠ 280 := mcl_ne hgc k_280 (by decide)
  obtain ⟨S0, hS0⟩ : ∃ S0, S0 = mX G d (daysF G T d.toNat) := ⟨_, rfl⟩
  rw [← hS0] at hck
  have hEN : ∀ {K : oV}, K01 (V 280) K → EN c (sO V 280 K) 280 g w G v := fun hk => EN_k h y4.2 hk
  have hst : ∀ {K S : oV}, CK K S → OT S0 S → ∀ q, 0 ≤ q → q < V 280 8 0 → K 9 q = V 280 9 q ∧ K 10 q = V 280 10 q ∧ K 11 q = V 280 11 q := fun {K S} hk ho q q0 q1 => by
    rw [hck.1] at q1
    have a1 := hk.2.2.2 q q0 (by have := ho.1; omega)
    have a2 := ho.2 q q0 q1
    have a3 := hck.2.2.2 q q0 q1
    exact ⟨by rw [a1.1, a2.1, a3.1], by rw [a1.2.1, a2.2.1, a3.2.1], by rw [a1.2.2, a2.2.2, a3.2.2]⟩
  have hat : ∀ K, sO V 280 K 280 = K := fun K => sO_at
  refine CC_of mt_32 gb_32 (by decide) (by decide) (rcb_o k_279) (Nat.le_of_ble_eq_true rfl) fun n dd hn hd => ?_
  show WW (bX3_endsRight (gOr n dd)) n [some (vR (some (279))), some (vR (some (g))), some (vI (d)), some (vI (l)), none] _ _ _
  unfold bX3_endsRight
  have hn0 : 1000000000 ≤ n := hn
  refine WW_se (WW_se (WW_st (PE_lI rfl) (SQ_n ?_)))
  refine WW_for2 900000000 d (l + 1) (fun j L1 c1 V1 => ∃ (K S : oV), L1 = [some (vR (some 279)), some (vR (some g)), some (vI d), some (vI l), some (vI j)] ∧ c1 = c ∧ V1 = sO V 280 K ∧ K01 (V 280) K ∧ KA (V 280) K ∧ CK K S ∧ OT S0 S ∧ (∀ i, d ≤ i → i < j → rgt G (colS (eX G i (daysF G T i.toNat))) i = true) ∧ ((j = d ∧ S = S0) ∨ (d < j ∧ S = daysF G T j.toNat))) (by omega) (by omega) (by omega) (by omega) ⟨V 280, S0, rfl, rfl, sO_id.symm, K01.rf, KA.rf, hck, OT.rf, fun i i0 i1 => by omega, Or.inl ⟨rfl, rfl⟩⟩ ?_ ?_ ?_
  · rintro j _ c _ j0 j1 ⟨K, S, rfl, rfl, rfl, hk1, hk2, hk3, ho, hr, hS⟩
    refine ⟨rfl, ?_⟩
    have e : decide (j < l + 1) = cmB .le j l := by
      unfold cmB
      congr 1
      apply propext
      omega
    rw [e]
    exact PE_cm (PE_lI rfl) (PE_lI rfl)
  · rintro j k' _ c _ j0 j1 hk' ⟨K, S, rfl, rfl, rfl, hk1, hk2, hk3, ho, hr, hS⟩
    have ej : ((j.toNat : Nat) : Int) = j := by omega
    have hi := DI_days (n := j.toNat) hG hvw (MW_of hM hT)
    rw [ej] at hi
    have hT' := MTv_fr hT (Fr_days (G := G) (n := j.toNat))
    have hv' := VE_fr hv (Fr_days (G := G) (n := j.toNat))
    have dm := DI_mX hG (by omega) (MW_of hM hT') hi
    have de := DI_eX hG (by omega) (MW_of hM hT') hi
    -- from the moves of the day on
    have go : ∀ {K : oV}, K01 (V 280) K → KA (V 280) K → CK K (mX G j (daysF G T j.toNat)) → OT S0 (mX G j (daysF G T j.toNat)) → WW (seS (cV (gOr n dd) 3 (aCR (fR 3 0 (lR 0)) (aCI (lI 4) (a0)))) (seS (ifS (notC (cB (gOr n dd) 33 (aCR (lR 0) (aCR (lR 1) (aCI (lI 4) (a0)))))) (rtB (kB false)) skS) (cV (gOr n dd) 4 (aCR (fR 3 0 (lR 0)) (aCI (lI 4) (a0)))))) k' [some (vR (some 279)), some (vR (some g)), some (vI d), some (vI l), some (vI j)] c (sO V 280 K) (LQ (fun L' c' V' => L'[4]? = some (some (vI j)) ∧ ∃ (K S : oV), gSet 4 (vI (j + 1)) L' = [some (vR (some 279)), some (vR (some g)), some (vI d), some (vI l), some (vI (j + 1))] ∧ c' = c ∧ V' = sO V 280 K ∧ K01 (V 280) K ∧ KA (V 280) K ∧ CK K S ∧ OT S0 S ∧ (∀ i, d ≤ i → i < j + 1 → rgt G (colS (eX G i (daysF G T i.toNat))) i = true) ∧ ((j + 1 = d ∧ S = S0) ∨ (d < j + 1 ∧ S = daysF G T (j + 1).toNat))) (SQ (rtB (kB true)) n (fun ex _ c' V' => ∃ v, ex = some (3, v) ∧ gRtB (some FieldType.boolean) v = true ∧ R v c' V'))) := by
      intro K hk1 hk2 hk3 ho
      have cd := CK_dx hG hk3 hi hv' hM hT' (by omega)
      refine WW_se (WW_cV (PE_aCR (PE_fC rfl (PE_lR rfl) k_279) (PE_aCI (PE_lI rfl) PE_a0)) hn (cc_3 (a := 280) (S := mX G j (daysF G T j.toNat)) (hEN hk1) hG (by rw [hat]; exact hk3) dm (VE_fr (VE_fr hv' Fr_morn) Fr_more) hvb (by omega) (by omega) ⟨rfl, SQ_n ?_⟩) (by omega))
      rw [sO_sO, hat]
      have hk1e : K01 (V 280) (kEven G v j K) := hk1.tr K01_even
      have hk2e : KA (V 280) (kEven G v j K) := hk2.tr KA_even
      have hr33 := pc_33 (c := c) (V := sO V 280 (kEven G v j K)) (d := j) hgc (hEN hk1e).2.2.2.2.1 hG (by rw [hat]; exact CK_70 cd.1 de (by omega))
      rw [hat, rgt_K hG cd.1 (fun k k0 k1 => by have := de.1.1.2.1 k k0 k1; omega)] at hr33
      have hpe := PE_not (PE_cB (L := [some (vR (some 279)), some (vR (some g)), some (vI d), some (vI l), some (vI j)]) (PE_aCR (PE_lR (i := 0) rfl) (PE_aCR (PE_lR (i := 1) rfl) (PE_aCI (PE_lI (i := 4) rfl) PE_a0))) hn hr33 (by omega : 2 ≤ dd))
      have ote : OT S0 (eX G j (daysF G T j.toNat)) := ho.tr E4_even.ot
      refine WW_se (WW_if hpe (fun hb => ?_) (fun hb => WW_sk (SQ_n ?_)))
      · have hf : rgt G (colS (eX G j (daysF G T j.toNat))) j = false := by simpa using hb
        refine WW_rtB PE_kB (SQ_s (LQ_r (SQ_s ⟨_, rfl, rfl, hq _ false hk1e hk2e (hst cd.1 ote) ⟨(fun q => by cases q), fun q => ?_⟩⟩)))
        rw [q j j0 (by omega)] at hf
        cases hf
      · have ht : rgt G (colS (eX G j (daysF G T j.toNat))) j = true := by simpa using hb
        refine WW_cV (PE_aCR (PE_fC rfl (PE_lR rfl) k_279) (PE_aCI (PE_lI rfl) PE_a0)) hn (cc_4 (a := 280) (S := eX G j (daysF G T j.toNat)) (hEN hk1e) hG (by rw [hat]; exact cd.1) de (by omega) (by omega) ⟨rfl, LQ_n ⟨rfl, kNight G j (kEven G v j K), daysF G T (j + 1).toNat, rfl, rfl, ?_, hk1e.tr K01_night, hk2e.tr KA_night, ?_, ?_, fun i i0 i1 => ?_, Or.inr ⟨by omega, rfl⟩⟩⟩) (by omega)
        · rw [sO_sO, hat]
        · have e1 : (j + 1).toNat = j.toNat + 1 := by omega
          rw [e1]
          show CK _ (dayF G ((j.toNat : Nat) : Int) (daysF G T j.toNat))
          rw [ej]
          exact cd.2
        · have e1 : (j + 1).toNat = j.toNat + 1 := by omega
          rw [e1]
          show OT S0 (dayF G ((j.toNat : Nat) : Int) (daysF G T j.toNat))
          rw [ej]
          exact ote.tr E4_dx.ot
        · by_cases e : i = j
          · rw [e]; exact ht
          · exact hr i i0 (by omega)
    rcases hS with ⟨rfl, rfl⟩ | ⟨hdj, rfl⟩
    · refine WW_se (WW_if (PE_cm (PE_lI rfl) (PE_lI rfl)) (fun hb => absurd (of_decide_eq_true hb) (by omega)) (fun _ => WW_sk (SQ_n ?_)))
      rw [hS0] at hk3
      exact go hk1 hk2 hk3 (by rw [← hS0]; exact OT.rf)
    · refine WW_se (WW_if (PE_cm (PE_lI rfl) (PE_lI rfl)) (fun _ => ?_) (fun hb => absurd (show j > d by omega) (of_decide_eq_false hb)))
      refine WW_cV (PE_aCR (PE_fC rfl (PE_lR rfl) k_279) (PE_aCI (PE_lI rfl) PE_a0)) hn (cc_2 (a := 280) (S := daysF G T j.toNat) (hEN hk1) hG (by rw [hat]; exact hk3) hi hv' hvb (by omega) (by omega) ⟨rfl, SQ_n ?_⟩) (by omega)
      rw [sO_sO, hat]
      have cm := CK_mX hG hk3 hi hv' hM hT' (by omega) (by omega)
      have ek : kMd G v d a b j K = kMorn G v j K := by unfold kMd; rw [if_neg (by omega)]
      rw [ek] at cm
      exact go (hk1.tr K01_morn) (hk2.tr KA_morn) cm (ho.tr OT_mX)
  · rintro _ c _ ⟨K, S, rfl, rfl, rfl, hk1, hk2, hk3, ho, hr, hS⟩
    exact SQ_n (WW_rtB PE_kB ⟨_, rfl, rfl, hq K true hk1 hk2 (hst hk3 ho) ⟨fun _ j j0 j1 => hr j j0 (by omega), fun _ => rfl⟩⟩)
end ER
/-- the memory with a course, and explanations found -/
def MX2 (V : Mem) (K X : oV) : Mem := sO (sO V 280 K) 279 X
theorem MX_279 {V : Mem} {K X : oV} : MX2 V K X 279 = X := sO_at
theorem MX_280 {V : Mem} {K X : oV} : MX2 V K X 280 = K := by
  unfold MX2
  rw [sO_ne (by decide), sO_at]
theorem MX_o {V : Mem} {K X : oV} {a : Nat} (h1 : a ≠ 279) (h2 : a ≠ 280) : MX2 V K X a = V a := by
  unfold MX2
  rw [sO_ne h1, sO_ne h2]
theorem MX_k {V : Mem} {K X K' : oV} : sO (MX2 V K X) 280 K' = MX2 V K' X := by
  unfold MX2
  funext b
  by_cases h1 : b = 280
  · subst h1
    rw [sO_at, sO_ne (by decide), sO_at]
  · rw [sO_ne h1]
    by_cases h2 : b = 279
    · subst h2
      rw [sO_at, sO_at]
    · rw [sO_ne h2, sO_ne h1, sO_ne h2, sO_ne h1]
theorem MX_x {V : Mem} {K X : oV} {k : Nat} {f : Int → Int} : sM (MX2 V K X) 279 k f = MX2 V K (sF X k f) := by
  rw [sM, MX_279]
  unfold MX2
  rw [sO_sO]
section SE
variable {c : cT} {V : Mem} {g : Nat} {G : oV} {v : Int → Int} {R : Option gAV → cT → Mem → Prop}
theorem cc_30 (hg : mcl c.1 g = some 4) (hpe : ∀ p : Nat, p < 7 → mcl c.1 (g + 13 + 4 * p) = some 8) (hgr : GR V g G) (hwr : WR G V 85 v) (hG : GW G) (hvv : VW G v) (hwrong : ¬ fWr G (runF G (mS v (-1) 0 0)) = -2) (hs : V 279 3 0 = 0 ∨ V 279 3 0 = 1) (hq0 : V 279 3 0 = 1 → R none c V) (hq1 : V 279 3 0 = 0 → ∀ K X : oV, X 3 0 = 1 → XP G v X → R none c (MX2 V K X)) : CC 9 30 [vR (some 279), vR (some g), vR (some 85)] c V R := by
  obtain ⟨y0, y1, -, -, y4, -, y6, -⟩ := id hG
  have hl := (lstF_b hG (n := (G 6 0).toNat) (by omega)).1
  have hvb : VB G v := VW_VB hvv
  have g1 : g ≠ 279 := mcl_ne hg k_279 (by decide)
  have g2 : g ≠ 280 := mcl_ne hg k_280 (by decide)
  have hMB : MM G (-1) 0 0 := Or.inl rfl
  have hEN : ∀ {K X : oV}, K 0 0 = (g : Int) → K 1 0 = 85 → EN c (MX2 V K X) 280 g 85 G v := fun {K X} k0 k1 => by
    refine ⟨⟨k_280, hg, k_85⟩, hpe, by rw [MX_280]; exact k0, by rw [MX_280]; exact k1, GR_ext hgr (MX_o g1 g2) (fun p hp => MX_o (mcl_ne (hpe p hp) k_279 (by decide)) (mcl_ne (hpe p hp) k_280 (by decide))) y4.2, WR_ext hwr (MX_o (by decide) (by decide))⟩
  have hMV : ∀ X, sO V 279 X = MX2 V (V 280) X := fun X => by
    unfold MX2
    rw [sO_id]
  refine CC_of mt_30 gb_30 (by decide) (by decide) (rcb_o k_279) (Nat.le_of_ble_eq_true rfl) fun n dd hn hd => ?_
  show WW (bX3_search (gOr n dd)) n [some (vR (some (279))), some (vR (some (g))), some (vR (some (85))), none, none, none, none] _ _ _
  unfold bX3_search
  have hn0 : 1000000000 ≤ n := hn
  rcases hs with hs | hs
  rotate_left
  · exact WW_se (WW_se (WW_if (PE_fB (b := true) rfl (PE_lR rfl) k_279 (by rw [hs]; rfl)) (fun _ => WW_rtV (SQ_s (SQ_s ⟨_, rfl, rfl, hq0 hs⟩))) (fun hb => by cases hb)))
  have hq := hq1 hs
  clear hq0 hq1
  refine WW_se (WW_se (WW_if (PE_fB (b := false) rfl (PE_lR rfl) k_279 (by rw [hs]; rfl)) (fun hb => by cases hb) (fun _ => WW_sk (SQ_n ?_))))
  refine WW_se (WW_pfB rfl (PE_lR rfl) k_279 PE_kB (SQ_n (WW_se (WW_pf rfl (PE_lR rfl) k_279 PE_kI (SQ_n ?_)))))
  obtain ⟨X0, hX0⟩ : ∃ X0, X0 = sF (sF (V 279) 3 (fun _ => 1)) 2 (fun _ => 0) := ⟨_, rfl⟩
  have em0 : sM (sM V 279 3 (fun _ => if true = true then 1 else 0)) 279 2 (fun _ => 0) = MX2 V (V 280) X0 := by
    rw [← hMV, hX0]
    simp only [sM, sO_sO, sO_at, if_true]
  rw [em0]
  refine WW_se (WW_cV (PE_aCR (PE_fC rfl (PE_lR rfl) k_279) (PE_aCR (PE_lR rfl) (PE_aCR (PE_lR rfl) PE_a0))) hn (cc_1 (a := 280) (g' := g) (w' := 85) k_280 ⟨rfl, SQ_n ?_⟩) (by omega))
  rw [MX_k, MX_280]
  obtain ⟨K0, hK0⟩ : ∃ K0, K0 = kBeg (V 280) g 85 := ⟨_, rfl⟩
  have k00 : K0 0 0 = (g : Int) := by rw [hK0]; unfold kBeg; simp [sF, s1]
  have k01 : K0 1 0 = 85 := by rw [hK0]; unfold kBeg; simp [sF, s1]
  rw [← hK0]
  refine WW_se (WW_st (PE_cI (PE_aCR (PE_lR rfl) PE_a0) hn (pc_38 hg (hEN k00 k01).2.2.2.2.1 hG) (by omega)) (SQ_n ?_))
  obtain ⟨l, hll⟩ : ∃ l, l = lstF G (G 6 0).toNat := ⟨_, rfl⟩
  rw [← hll] at hl ⊢
  refine WW_se (WW_st PE_kI (SQ_n ?_))
  have okL : ∀ d a b : Int, MM G d a b → 0 ≤ d → d < G 0 0 → (∃ j, 0 ≤ j ∧ j < d ∧ bse G v j = false) → okM G v d a b = false := fun d a b hM d0 d1 ⟨j, j0, j1, hj⟩ => by
    cases ho : okM G v d a b
    · rfl
    · rw [((okM_iff hG hvv hM d0 d1).mp ho).1 j j0 j1] at hj
      cases hj
  refine WW_for2 980000000 0 (l + 1) (fun j L1 c1 V1 => ∃ (K X : oV) (z5 z6 : Option gAV), L1 = [some (vR (some 279)), some (vR (some g)), some (vR (some 85)), some (vI l), some (vI j), z5, z6] ∧ c1 = c ∧ V1 = MX2 V K X ∧ K 0 0 = (g : Int) ∧ K 1 0 = 85 ∧ CK K (daysF G (mS v (-1) 0 0) j.toNat) ∧ (∀ i, 0 ≤ i → i < j → bse G v i = true) ∧ X 3 0 = 1 ∧ XC G v X (64 * j)) (by omega) (by omega) (by omega) (by omega) ⟨K0, X0, none, none, rfl, rfl, rfl, k00, k01, by rw [hK0]; exact CK_beg, fun i i0 i1 => by omega, by rw [hX0]; simp [sF], ⟨by rw [hX0]; simp [sF, cnt], fun y y0 y1 => by omega⟩⟩ ?_ ?_ ?_
  · rintro j _ c _ j0 j1 ⟨K, X, z5, z6, rfl, rfl, rfl, -⟩
    refine ⟨rfl, ?_⟩
    have e : decide (j < l + 1) = cmB .le j l := by
      unfold cmB
      congr 1
      apply propext
      omega
    rw [e]
    exact PE_cm (PE_lI rfl) (PE_lI rfl)
  · rintro d k' _ c _ d0 d1 hk' ⟨K, X, z5, z6, rfl, rfl, rfl, hk0, hk1, hck, hbs, hx3, hxc⟩
    have ed : ((d.toNat : Nat) : Int) = d := by omega
    have hi := DI_days (n := d.toNat) (S := mS v (-1) 0 0) hG hvv (MW_of hMB mS_MTv)
    rw [ed] at hi
    have hTB := MTv_fr (mS_MTv (v := v) (d := -1) (a := 0) (b := 0)) (Fr_days (G := G) (n := d.toNat))
    have hvB := VE_fr (mS_VE (G := G) (v := v) (d := -1) (a := 0) (b := 0)) (Fr_days (G := G) (n := d.toNat))
    refine WW_se (WW_cV (PE_aCR (PE_fC rfl (PE_lR rfl) k_279) (PE_aCI (PE_lI rfl) PE_a0)) hn (cc_2 (a := 280) (S := daysF G (mS v (-1) 0 0) d.toNat) (hEN hk0 hk1) hG (by rw [MX_280]; exact hck) hi hvB hvb d0 (by omega) ⟨rfl, SQ_n ?_⟩) (by omega))
    rw [MX_k, MX_280]
    have cm := CK_mX hG hck hi hvB hMB hTB d0 (by omega)
    have ek : kMd G v (-1) 0 0 d K = kMorn G v d K := by unfold kMd; rw [if_neg (by omega)]
    rw [ek] at cm
    have dm := DI_mX hG d0 (MW_of hMB hTB) hi
    have de := DI_eX hG d0 (MW_of hMB hTB) hi
    have kk0 : kMorn G v d K 0 0 = (g : Int) := by rw [(K01_morn (G := G) (K := K) (v := v) (d := d)).1]; exact hk0
    have kk1 : kMorn G v d K 1 0 = 85 := by rw [(K01_morn (G := G) (K := K) (v := v) (d := d)).2]; exact hk1
    generalize kMorn G v d K = K1 at *
    obtain ⟨Sm, hSm⟩ : ∃ Sm, Sm = mX G d (daysF G (mS v (-1) 0 0) d.toNat) := ⟨_, rfl⟩
    rw [← hSm] at cm dm
    -- with one more move: what the course is behind it
    have hex : ∀ {K : oV} {a b : Int}, CK K Sm → 0 ≤ a → a < b → b < G 1 0 → CK (kExch K a b) (mX G d (daysF G (mS v d a b) d.toNat)) := fun {K a b} hK ha0 ab b1 => by
      have hM : MM G d a b := Or.inr ⟨⟨ha0, by omega⟩, ⟨by omega, b1⟩, by omega⟩
      have q1 := CK_kMr hG hvv (mS_VE (G := G) (v := v)) hM (mS_MTv (v := v)) (n := d.toNat) (by omega)
      have q2 := CK_kMr hG hvv (mS_VE (G := G) (v := v)) hMB (mS_MTv (v := v)) (n := d.toNat) (by omega)
      rw [kMr_no (d' := -1) (a' := 0) (b' := 0) (fun i i0 i1 => by omega)] at q1
      have hiE := DI_days (n := d.toNat) (S := mS v d a b) hG hvv (MW_of hM mS_MTv)
      rw [ed] at hiE
      have hTE := MTv_fr (mS_MTv (v := v) (d := d) (a := a) (b := b)) (Fr_days (G := G) (n := d.toNat))
      have hvE := VE_fr (mS_VE (G := G) (v := v) (d := d) (a := a) (b := b)) (Fr_days (G := G) (n := d.toNat))
      have r1 := CK_morn hG q1 hiE hvE d0 (by omega)
      have r2 := CK_mX hG q2 hi hvB hMB hTB d0 (by omega)
      have ek2 : kMd G v (-1) 0 0 d (kMr G v (-1) 0 0 d.toNat) = kMorn G v d (kMr G v (-1) 0 0 d.toNat) := by unfold kMd; rw [if_neg (by omega)]
      rw [ek2, ← hSm] at r2
      have r3 := CK_tr hK r2 r1
      have t := MTv_fr hTE (Fr_morn (G := G) (d := d))
      have := CK_exch hG r3 (DI_morn hG d0 hiE).1 ha0 (by omega) (by omega) b1 (show a ≠ b by omega)
      unfold mX moreF
      rw [t.1, t.2.1, t.2.2, if_pos rfl]
      exact this
    refine WW_se (WW_cV (PE_aCR (PE_fC rfl (PE_lR rfl) k_279) PE_a0) hn (cc_7 (a := 280) (S := Sm) k_280 (by rw [MX_280]; exact cm) fun K2 ho2 hsv2 => ⟨rfl, SQ_n ?_⟩) (by omega))
    rw [MX_k]
    rw [MX_280] at ho2
    have ck2 : CK K2 Sm := CK_ag cm ho2
    have k20 : K2 0 0 = (g : Int) := by rw [ho2 0 (by decide) (by decide)]; exact kk0
    have k21 : K2 1 0 = 85 := by rw [ho2 1 (by decide) (by decide)]; exact kk1
    refine WW_se (WW_se (WW_st PE_kI (SQ_n ?_)))
    refine WW_for 900000000 0 (G 1 0) (fun a L1 c1 V1 => ∃ (K X : oV) (z6 : Option gAV), L1 = [some (vR (some 279)), some (vR (some g)), some (vR (some 85)), some (vI l), some (vI d), some (vI a), z6] ∧ c1 = c ∧ V1 = MX2 V K X ∧ K 0 0 = (g : Int) ∧ K 1 0 = 85 ∧ CK K Sm ∧ SV K Sm ∧ X 3 0 = 1 ∧ XC G v X (64 * d + 8 * a)) (by omega) (by omega) (by omega) (by omega) ⟨K2, X, z6, rfl, rfl, rfl, k20, k21, ck2, hsv2, hx3, by rw [show 64 * d + 8 * 0 = 64 * d by omega]; exact hxc⟩ ?_ ?_ ?_
    · rintro a _ c _ ha0 a1 ⟨K, X, z6, rfl, rfl, rfl, -⟩
      exact ⟨rfl, PE_g1 rfl hg rfl (by rw [MX_o g1 g2]; exact hgr.1.2.1)⟩
    · rintro a ka _ c _ ha0 a1 hka ⟨K, X, z6, rfl, rfl, rfl, hk0, hk1, hck, hsv, hx3, hxc⟩
      have hxc := XC_gap (y := 64 * d + 8 * a + (a + 1)) hxc (by omega) (by omega) fun j j0 j1 => okX_no (by omega)
      refine WW_se (WW_st (PE_o2 (PE_lI rfl) PE_kI) (SQ_n ?_))
      rw [zAdd_id (by omega) (by omega)]
      refine WW_for 800000000 (a + 1) (G 1 0) (fun b L1 c1 V1 => ∃ (K X : oV), L1 = [some (vR (some 279)), some (vR (some g)), some (vR (some 85)), some (vI l), some (vI d), some (vI a), some (vI b)] ∧ c1 = c ∧ V1 = MX2 V K X ∧ K 0 0 = (g : Int) ∧ K 1 0 = 85 ∧ CK K Sm ∧ SV K Sm ∧ X 3 0 = 1 ∧ XC G v X (64 * d + 8 * a + b)) (by omega) (by omega) (by omega) (by omega) ⟨K, X, rfl, rfl, rfl, hk0, hk1, hck, hsv, hx3, hxc⟩ ?_ ?_ ?_
      · rintro b _ c _ b0 b1 ⟨K, X, rfl, rfl, rfl, -⟩
        exact ⟨rfl, PE_g1 rfl hg rfl (by rw [MX_o g1 g2]; exact hgr.1.2.1)⟩
      · rintro b kb _ c _ b0 b1 hkb ⟨K, X, rfl, rfl, rfl, hk0, hk1, hck, hsv, hx3, hxc⟩
        have hM : MM G d a b := Or.inr ⟨⟨ha0, a1⟩, ⟨by omega, b1⟩, by omega⟩
        have cap := IV_cap dm.1 (by omega)
        have hst : ∀ k, 0 ≤ k → k < 8 → K 2 k = -2 ∨ (0 ≤ K 2 k ∧ K 2 k < 70 ∧ 0 ≤ K 9 (K 2 k) ∧ K 9 (K 2 k) < 7) := fun k k0 k8 => by
          rw [hck.2.1 k k0 k8]
          rcases dm.1.1.2.1 k k0 k8 with q | ⟨q0, q1, -⟩
          · exact Or.inl q
          · have q3 := dm.1.1.2.2.2 _ q0 q1
            rw [(hck.2.2.2 _ q0 q1).1]
            exact Or.inr ⟨q0, by omega, q3.1, q3.2⟩
        refine WW_se (WW_cV (PE_aCR (PE_fC rfl (PE_lR rfl) k_279) (PE_aCI (PE_lI rfl) (PE_aCI (PE_lI rfl) PE_a0))) hn (cc_5 (a := 280) k_280 ha0 (by omega) (by omega) (by omega) (by rw [MX_280]; exact hst a ha0 (by omega)) (by rw [MX_280]; exact hst b (by omega) (by omega)) (by omega) ⟨rfl, SQ_n ?_⟩) (by omega))
        rw [MX_k, MX_280]
        have ckE := hex hck ha0 (by omega) b1
        have ke0 : kExch K a b 0 0 = (g : Int) := by rw [kExch_o (by decide) (by decide)]; exact hk0
        have ke1 : kExch K a b 1 0 = 85 := by rw [kExch_o (by decide) (by decide)]; exact hk1
        have hokx := okX_at (G := G) (v := v) (d := d) ha0 (show a < b by omega) b1 y1.2
        have c840 := okX_840 (G := G) (v := v) (x := 64 * d + 8 * a + b + 1) (by omega)
        have cs := cnt_s (P := okX G v) (j := 64 * d + 8 * a + b) (by omega)
        have cn0 := (cnt_le (n := (64 * d + 8 * a + b).toNat) (P := okX G v)).1
        -- behind the try: back to the saved, found or not
        have fin : ∀ {K3 X3 : oV}, K01 (kExch K a b) K3 → KA (kExch K a b) K3 → (∀ q, 0 ≤ q → q < kExch K a b 8 0 → K3 9 q = kExch K a b 9 q ∧ K3 10 q = kExch K a b 10 q ∧ K3 11 q = kExch K a b 11 q) → X3 3 0 = 1 → XC G v X3 (64 * d + 8 * a + (b + 1)) → WW (cV (gOr n dd) 8 (aCR (fR 3 0 (lR 0)) (a0))) kb [some (vR (some 279)), some (vR (some g)), some (vR (some 85)), some (vI l), some (vI d), some (vI a), some (vI b)] c (MX2 V K3 X3) (fun ex L' c' V' => ex = none ∧ L' = [some (vR (some 279)), some (vR (some g)), some (vR (some 85)), some (vI l), some (vI d), some (vI a), some (vI b)] ∧ c' = c ∧ ∃ K4, V' = MX2 V K4 X3 ∧ K4 0 0 = (g : Int) ∧ K4 1 0 = 85 ∧ CK K4 Sm ∧ SV K4 Sm) := by
          intro K3 X3 h01 hka2 hstb hx33 hxc3
          have hsv3 : SV K3 Sm := SV_ka hsv ⟨hka2.1.trans (kExch_o (by decide) (by decide)), hka2.2.trans (kExch_o (by decide) (by decide))⟩
          refine WW_cV (PE_aCR (PE_fC rfl (PE_lR rfl) k_279) PE_a0) hn (cc_8 (a := 280) (S := Sm) k_280 (by rw [MX_280]; exact hsv3) (fun q q0 q1 => ?_) fun K4 ho4 ck4 => ⟨rfl, rfl, rfl, rfl, K4, by rw [MX_k], ?_, ?_, ck4, ?_⟩) (by omega)
          · rw [MX_280]
            have e8 : kExch K a b 8 0 = Sm 35 0 := by rw [kExch_o (by decide) (by decide)]; exact hck.1
            have a1 := hstb q q0 (by rw [e8]; exact q1)
            rw [kExch_o (by decide) (by decide), kExch_o (by decide) (by decide), kExch_o (by decide) (by decide)] at a1
            have a2 := hck.2.2.2 q q0 q1
            exact ⟨by rw [a1.1, a2.1], by rw [a1.2.1, a2.2.1], by rw [a1.2.2, a2.2.2]⟩
          · rw [ho4 0 (by decide) (by decide) (by decide) (by decide) (by decide), MX_280, h01.1]; exact ke0
          · rw [ho4 1 (by decide) (by decide) (by decide) (by decide) (by decide), MX_280, h01.2]; exact ke1
          · rw [MX_280] at ho4
            unfold SV at hsv3 ⊢
            rw [ho4 14 (by decide) (by decide) (by decide) (by decide) (by decide), ho4 15 (by decide) (by decide) (by decide) (by decide) (by decide)]
            exact hsv3
        refine WW_se (WW_ifE (EE_and (EE_cBx hn (EE_pe (PE_aCR (PE_lR rfl) (PE_aCR (PE_lR rfl) (PE_aCI (PE_lI rfl) (PE_aCI (PE_lI rfl) PE_a0)))) (by
          rw [hll]
          refine cc_32 (T := mS v d a b) (hEN ke0 ke1) hG hvb hvv mS_VE hM mS_MTv d0 (by omega) (by rw [MX_280]; exact ckE) fun K3 B h01 hka2 hstb hB => ⟨_, rfl, ?_⟩
          rw [MX_280] at h01 hka2 hstb
          rw [MX_k]
          have hokB : okM G v d a b = B := by
            apply Bool.eq_iff_iff.mpr
            rw [okM_iff hG hvv hM d0 (by omega), hB]
            constructor
            · rintro ⟨-, q⟩ j j0 j1
              exact q j j0 (by omega)
            · intro q
              refine ⟨fun j j0 j1 => hbs j j0 j1, fun j j0 j1 => ?_⟩
              by_cases hjl : j ≤ lstF G (G 6 0).toNat
              · exact q j j0 hjl
              · exact rgt_late hG (by omega)
          rw [hokB] at hokx
          rw [← hll]
          refine ⟨fun hb => ⟨(fun q => by cases q), fun _ => WW_sk (SQ_n ?_)⟩, fun hb => ?_⟩
          · subst hb
            have hxc' := XC_gap (y := 64 * d + 8 * a + (b + 1)) hxc (by omega) (by omega) fun j j0 j1 => by
              have : j = 64 * d + 8 * a + b := by omega
              rw [this]
              exact hokx
            refine WW_mono (fin h01 hka2 hstb hx3 hxc') ?_
            rintro ex L' c' V' ⟨rfl, rfl, rfl, K4, rfl, k40, k41, ck4, sv4⟩
            exact LQ_n ⟨rfl, K4, X, rfl, rfl, rfl, k40, k41, ck4, sv4, hx3, hxc'⟩
          · subst hb
            rw [hokx, if_pos rfl] at cs
            have hc2 : X 2 0 < 840 := by rw [hxc.1]; omega
            have hc3 : 0 ≤ X 2 0 := by rw [hxc.1]; exact cn0
            have e2 : MX2 V K3 X 279 2 0 = X 2 0 := by rw [MX_279]
            have p2 : ∀ {L : gLo}, L[0]? = some (some (vR (some 279))) → PE (fI 3 2 (lR 0)) L c (MX2 V K3 X) (X 2 0) := fun {L} hL => by
              have := PE_fI (ci := 3) (k := 2) (c := c) (V := MX2 V K3 X) (L := L) rfl (PE_lR hL) k_279
              rwa [e2] at this
            refine EE_pe (PE_cm (p2 rfl) PE_kI) ⟨fun _ => ?_, fun hb => absurd hc2 (of_decide_eq_false hb)⟩
            have ez : zAdd (zMul (zAdd (zMul d 8) a) 8) b = 64 * d + 8 * a + b := by
              rw [zMul_id (x := d) (by omega) (by omega), zAdd_id (y := a) (by omega) (by omega), zMul_id (by omega) (by omega), zAdd_id (by omega) (by omega)]
              omega
            refine WW_se (WW_asF (ty := 0) (z := 64 * d + 8 * a + b) rfl (by decide) (PE_lR rfl) k_279 (p2 rfl) (by rw [hxc.1]; exact cn0) hc2 (PE_o2 (PE_o2 (PE_o2 (PE_o2 (PE_lI rfl) PE_kI) (PE_lI rfl)) PE_kI) (PE_lI rfl)) (by rw [ez]; rfl) (SQ_n ?_))
            rw [MX_x, MX_279]
            refine WW_pu rfl (PE_lR rfl) k_279 PE_kI (SQ_n ?_)
            rw [MX_x, MX_279, sF_ne (by decide), zAdd_id (by omega) (by omega)]
            have hxc' : XC G v (sF (sF X 1 (gUz (X 1) (X 2 0) (64 * d + 8 * a + b))) 2 (fun _ => X 2 0 + 1)) (64 * d + 8 * a + (b + 1)) := by
              refine ⟨?_, fun y y0 y1 hy => ?_⟩
              · rw [sF_at, hxc.1, show 64 * d + 8 * a + (b + 1) = 64 * d + 8 * a + b + 1 by omega, cs]
              · rw [sF_ne (by decide), sF_at, hxc.1]
                by_cases e : y = 64 * d + 8 * a + b
                · subst e
                  rw [gUz_at]
                · have hlt := cnt_lt y0 hy (n := (64 * d + 8 * a + b).toNat) (by omega)
                  rw [gUz_ne (by omega)]
                  exact hxc.2 y y0 (by omega) hy
            have hx33 : sF (sF X 1 (gUz (X 1) (X 2 0) (64 * d + 8 * a + b))) 2 (fun _ => X 2 0 + 1) 3 0 = 1 := by
              rw [sF_ne (by decide), sF_ne (by decide)]
              exact hx3
            refine WW_mono (fin h01 hka2 hstb hx33 hxc') ?_
            rintro ex L' c' V' ⟨rfl, rfl, rfl, K4, rfl, k40, k41, ck4, sv4⟩
            exact LQ_n ⟨rfl, K4, _, rfl, rfl, rfl, k40, k41, ck4, sv4, hx33, hxc'⟩)) (by omega))))
      · rintro _ c _ ⟨K, X, rfl, rfl, rfl, hk0, hk1, hck, hsv, hx3, hxc⟩
        have hxc := XC_gap (y := 64 * d + 8 * (a + 1)) hxc (by omega) (by omega) fun j j0 j1 => okX_no (by omega)
        exact LQ_n ⟨rfl, K, X, _, rfl, rfl, rfl, hk0, hk1, hck, hsv, hx3, hxc⟩
    · rintro _ c _ ⟨K, X, z6, rfl, rfl, rfl, hk0, hk1, hck, hsv, hx3, hxc⟩
      have hxc := XC_gap (y := 64 * (d + 1)) hxc (by omega) (by omega) fun j j0 j1 => okX_no (by omega)
      rw [hSm] at hck
      have cd := CK_dx hG hck hi hvB hMB hTB d0
      rw [hSm] at dm
      refine SQ_n (WW_se (WW_cV (PE_aCR (PE_fC rfl (PE_lR rfl) k_279) (PE_aCI (PE_lI rfl) PE_a0)) hn (cc_3 (a := 280) (S := mX G d (daysF G (mS v (-1) 0 0) d.toNat)) (hEN hk0 hk1) hG (by rw [MX_280]; exact hck) dm (VE_fr (VE_fr hvB Fr_morn) Fr_more) hvb d0 (by omega) ⟨rfl, SQ_n ?_⟩) (by omega)))
      rw [MX_k, MX_280]
      have ke0 : kEven G v d K 0 0 = (g : Int) := by rw [(K01_even (G := G) (K := K) (v := v) (d := d)).1]; exact hk0
      have ke1 : kEven G v d K 1 0 = 85 := by rw [(K01_even (G := G) (K := K) (v := v) (d := d)).2]; exact hk1
      have hr33 := pc_33 (c := c) (V := MX2 V (kEven G v d K) X) (d := d) hg (hEN ke0 ke1).2.2.2.2.1 hG (by rw [MX_280]; exact CK_70 cd.1 de (by omega))
      rw [MX_280, rgt_K hG cd.1 (fun k k0 k1 => by have := de.1.1.2.1 k k0 k1; omega)] at hr33
      have hr33 : PC 2 33 [vR (some 279), vR (some g), vI d] c (MX2 V (kEven G v d K) X) (some (vB (bse G v d))) := hr33
      have hpe := PE_not (PE_cB (L := [some (vR (some 279)), some (vR (some g)), some (vR (some 85)), some (vI l), some (vI d), some (vI (G 1 0)), z6]) (PE_aCR (PE_lR (i := 0) rfl) (PE_aCR (PE_lR (i := 1) rfl) (PE_aCI (PE_lI (i := 4) rfl) PE_a0))) hn hr33 (by omega : 2 ≤ dd))
      refine WW_se (WW_if hpe (fun hb => ?_) (fun hb => WW_sk (SQ_n ?_)))
      · have hf : bse G v d = false := by simpa using hb
        have hxe := XC_gap (y := 64 * G 0 0) hxc (by omega) (by omega) fun j j0 j1 => by
          cases hj : okX G v j
          · rfl
          · have hj' := hj
            unfold okX at hj'
            simp only [Bool.and_eq_true, decide_eq_true_eq] at hj'
            have := okL (j / 64) (j / 8 % 8) (j % 8) (Or.inr ⟨⟨by omega, by omega⟩, ⟨by omega, hj'.1.1⟩, by omega⟩) (by omega) (by omega) ⟨d, d0, by omega, hf⟩
            rw [this] at hj'
            exact absurd hj'.2 (by decide)
        exact WW_rtV (SQ_s (LQ_r (SQ_s ⟨_, rfl, rfl, hq _ X hx3 (XC_XP hG hxe)⟩)))
      · have ht : bse G v d = true := by simpa using hb
        refine WW_cV (PE_aCR (PE_fC rfl (PE_lR rfl) k_279) (PE_aCI (PE_lI rfl) PE_a0)) hn (cc_4 (a := 280) (S := eX G d (daysF G (mS v (-1) 0 0) d.toNat)) (hEN ke0 ke1) hG (by rw [MX_280]; exact cd.1) de d0 (by omega) ⟨rfl, LQ_n ⟨rfl, kNight G d (kEven G v d K), X, _, _, rfl, rfl, ?_, ?_, ?_, ?_, fun i i0 i1 => ?_, hx3, hxc⟩⟩) (by omega)
        · rw [MX_k, MX_280]
        · rw [(K01_night (G := G) (K := kEven G v d K) (d := d)).1]; exact ke0
        · rw [(K01_night (G := G) (K := kEven G v d K) (d := d)).2]; exact ke1
        · have e1 : (d + 1).toNat = d.toNat + 1 := by omega
          rw [e1]
          show CK _ (dayF G ((d.toNat : Nat) : Int) (daysF G (mS v (-1) 0 0) d.toNat))
          rw [ed]
          exact cd.2
        · by_cases e : i = d
          · rw [e]; exact ht
          · exact hbs i i0 (by omega)
  · rintro _ c _ ⟨K, X, z5, z6, rfl, rfl, rfl, hk0, hk1, hck, hbs, hx3, hxc⟩
    refine absurd ((fWr_rgt (T := mS v (-1) 0 0) hG hvv (MW_of hMB mS_MTv)).mpr fun j j0 j1 => ?_) hwrong
    by_cases hjl : j < l + 1
    · exact hbs j j0 hjl
    · exact rgt_late hG (by omega)
end SE
