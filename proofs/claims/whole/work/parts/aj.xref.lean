/-! EXPLANATIONS in the reference -/
section XR
variable {c : cT} {V : Mem} {g : Nat} {R : Option gAV → cT → Mem → Prop}
/-- a run with one more move lies in the fields -/
theorem RN_x {T : oV} (h : RJ c V g) (hm : MW (V g) T) (hv : T 18 = V 305 18) (h3 : T 3 = V 305 3) : RN c (sO V 305 (runF (V g) T)) g := by
  obtain ⟨h1, hG, hvw⟩ := h
  have y0 := hG.1
  have e : ∀ U, sO V 305 U g = V g := fun U => sO_ne h1.2.2
  have hvw' : VW (V g) (T 18) := by rw [hv]; exact hvw
  refine ⟨mG_sO h1 ?_, by rw [e]; exact hG, ?_, ?_⟩
  · rw [runF_eq, Fr_days 3 (by omega), h3]
  · rw [e, sO_at]
    have := (col_run (n := (V g 0 0).toNat) hG hvw' hm (by omega)).1
    rw [← runF_eq, show (((V g 0 0).toNat : Nat) : Int) = V g 0 0 by omega] at this
    exact this
  · rw [sO_at]
    exact runF_cap hG hvw' hm
def FO (G : oV) (v : Int → Int) (i : Int) (Y : oV) (x : Int) : Prop := ∀ y : Int, 0 ≤ y → y < x → okX G v y = true → cnt y.toNat (okX G v) = i → Y 42 0 = y / 64 ∧ Y 43 0 = y / 8 % 8 ∧ Y 44 0 = y % 8
theorem FO_gap {G : oV} {v : Int → Int} {i : Int} {Y : oV} {x z : Int} (h : FO G v i Y x) (hn : ∀ j : Int, x ≤ j → j < z → okX G v j = false) : FO G v i Y z := fun y y0 y1 hy hc => by
  by_cases e : y < x
  · exact h y y0 e hy hc
  · rw [hn y (by omega) y1] at hy
    cases hy
theorem cc_271 {i : Int} (hJ : RJ c V g) (hq : ∀ Y, AQ (V 305) Y → FO (V g) (V 305 18) i Y (64 * V g 0 0) → R (some (vI (cnt (64 * V g 0 0).toNat (okX (V g) (V 305 18))))) c (sO V 305 Y)) : CC 7 271 [vR (some 305), vI i] c V R := by
  obtain ⟨hm, hG, hvw⟩ := id hJ
  obtain ⟨m1, m2, ng⟩ := id hm
  obtain ⟨y0, y1, -⟩ := id hG
  have eg : ∀ Y, sO V 305 Y g = V g := fun Y => sO_ne ng
  have hmY : ∀ {Y : oV}, AQ (V 305) Y → mG c (sO V 305 Y) g := fun ha => mG_sO hm (by rw [ha 3 (by omega) (by omega)])
  obtain ⟨P, hP⟩ : ∃ P, P = okX (V g) (V 305 18) := ⟨_, rfl⟩
  rw [← hP] at hq
  refine CC_of mt_271 gb_271 (by decide) (by decide) (rcb_o k_305) (Nat.le_of_ble_eq_true rfl) fun n dd hn hd => ?_
  show WW (bX13_explaining (gOr n dd)) n [some (vR (some (305))), some (vI (i)), none, none, none, none] _ _ _
  unfold bX13_explaining
  have hn0 : 1000000000 ≤ n := hn
  refine WW_se (WW_st PE_kI (SQ_n (WW_se (WW_pf rfl (PE_lR rfl) k_305 PE_kI (SQ_n (WW_se (WW_pf rfl (PE_lR rfl) k_305 PE_kI (SQ_n ?_))))))))
  have em0 : sM (sM V 305 39 (fun _ => -1)) 305 40 (fun _ => -1) = sO V 305 (s1 (s1 (V 305) 39 (-1)) 40 (-1)) := by simp only [sM, sO_sO, sO_at, s1]
  rw [em0]
  refine WW_se (WW_se (WW_st PE_kI (SQ_n ?_)))
  refine WW_for 980000000 0 (V g 0 0) (fun d L1 c1 V1 => ∃ (Y : oV) (z4 z5 : Option gAV), L1 = [some (vR (some 305)), some (vI i), some (vI (cnt (64 * d).toNat P)), some (vI d), z4, z5] ∧ c1 = c ∧ V1 = sO V 305 Y ∧ AQ (V 305) Y ∧ Y 39 0 = -1 ∧ Y 40 0 = -1 ∧ FO (V g) (V 305 18) i Y (64 * d)) (by omega) (by omega) (by omega) (by omega) ⟨_, none, none, rfl, rfl, rfl, (AQ.rf.ws (by omega)).ws (by omega), by simp [s1, sF], by simp [s1, sF], fun y y0 y1 => by omega⟩ ?_ ?_ ?_
  · rintro d _ c _ d0 d1 ⟨Y, z4, z5, rfl, rfl, rfl, hA, -⟩
    exact ⟨rfl, PE_gl rfl (hmY hA) rfl (by rw [eg])⟩
  · rintro d kd _ c _ d0 d1 hkd ⟨Y, z4, z5, rfl, rfl, rfl, hA, h39, h40, hF⟩
    refine WW_se (WW_st PE_kI (SQ_n ?_))
    refine WW_for 900000000 0 (V g 1 0) (fun a L1 c1 V1 => ∃ (Y : oV) (z5 : Option gAV), L1 = [some (vR (some 305)), some (vI i), some (vI (cnt (64 * d + 8 * a).toNat P)), some (vI d), some (vI a), z5] ∧ c1 = c ∧ V1 = sO V 305 Y ∧ AQ (V 305) Y ∧ Y 39 0 = -1 ∧ Y 40 0 = -1 ∧ FO (V g) (V 305 18) i Y (64 * d + 8 * a)) (by omega) (by omega) (by omega) (by omega) ⟨Y, z5, by rw [show 64 * d + 8 * 0 = 64 * d by omega]; rfl, rfl, rfl, hA, h39, h40, by rw [show 64 * d + 8 * 0 = 64 * d by omega]; exact hF⟩ ?_ ?_ ?_
    · rintro a _ c _ ha0 a1 ⟨Y, z5, rfl, rfl, rfl, hA, -⟩
      exact ⟨rfl, PE_gl rfl (hmY hA) rfl (by rw [eg])⟩
    · rintro a ka _ c _ ha0 a1 hka ⟨Y, z5, rfl, rfl, rfl, hA, h39, h40, hF⟩
      have hF := FO_gap (z := 64 * d + 8 * a + (a + 1)) hF fun j j0 j1 => okX_no (by omega)
      have ec : cnt (64 * d + 8 * a).toNat P = cnt (64 * d + 8 * a + (a + 1)).toNat P := by
        rw [hP]
        exact (cnt_gp (by omega) (by omega) fun j j0 j1 => okX_no (by omega)).symm
      rw [ec]
      refine WW_se (WW_st (PE_o2 (PE_lI rfl) PE_kI) (SQ_n ?_))
      rw [zAdd_id (by omega) (by omega)]
      refine WW_for 800000000 (a + 1) (V g 1 0) (fun b L1 c1 V1 => ∃ (Y : oV), L1 = [some (vR (some 305)), some (vI i), some (vI (cnt (64 * d + 8 * a + b).toNat P)), some (vI d), some (vI a), some (vI b)] ∧ c1 = c ∧ V1 = sO V 305 Y ∧ AQ (V 305) Y ∧ Y 39 0 = -1 ∧ Y 40 0 = -1 ∧ FO (V g) (V 305 18) i Y (64 * d + 8 * a + b)) (by omega) (by omega) (by omega) (by omega) ⟨Y, rfl, rfl, rfl, hA, h39, h40, hF⟩ ?_ ?_ ?_
      · rintro b _ c _ b0 b1 ⟨Y, rfl, rfl, rfl, hA, -⟩
        exact ⟨rfl, PE_gl rfl (hmY hA) rfl (by rw [eg])⟩
      · rintro b kb _ c _ b0 b1 hkb ⟨Y, rfl, rfl, rfl, hA, h39, h40, hF⟩
        have hM : MM (V g) d a b := Or.inr ⟨⟨ha0, a1⟩, ⟨by omega, b1⟩, by omega⟩
        refine WW_se (WW_pf rfl (PE_lR rfl) k_305 (PE_lI rfl) (SQ_n (WW_se (WW_pf rfl (PE_lR rfl) k_305 (PE_lI rfl) (SQ_n (WW_se (WW_pf rfl (PE_lR rfl) k_305 (PE_lI rfl) (SQ_n ?_))))))))
        obtain ⟨T, hT⟩ : ∃ T, T = s1 (s1 (s1 Y 36 d) 37 a) 38 b := ⟨_, rfl⟩
        have em : sM (sM (sM (sO V 305 Y) 305 36 (fun _ => d)) 305 37 (fun _ => a)) 305 38 (fun _ => b) = sO V 305 T := by
          rw [hT]
          simp only [sM, sO_sO, sO_at, s1]
        rw [em]
        have hMT : MTv T d a b := by
          rw [hT]
          exact ⟨by simp [s1, sF], by simp [s1, sF], by simp [s1, sF]⟩
        have To : ∀ k, k ≠ 36 → k ≠ 37 → k ≠ 38 → T k = Y k := fun k k6 k7 k8 => by rw [hT, s1_o k8, s1_o k7, s1_o k6]
        have hAT : AQ (V 305) T := fun k k3 k22 => by rw [To k (by omega) (by omega) (by omega)]; exact hA k k3 k22
        have e18 : T 18 = V 305 18 := hAT 18 (by omega) (by omega)
        have e3 : T 3 = V 305 3 := hAT 3 (by omega) (by omega)
        have t39 : T 39 0 = -1 := by rw [To 39 (by decide) (by decide) (by decide)]; exact h39
        have t40 : T 40 0 = -1 := by rw [To 40 (by decide) (by decide) (by decide)]; exact h40
        have hMW := MW_of hM hMT
        have hRW : RW c (sO V 305 T) g := by
          refine ⟨mG_sO hm (by rw [e3]), by rw [eg]; exact hG, by rw [eg, sO_at, e18]; exact hvw, by rw [eg, sO_at]; exact hMW, ?_⟩
          rw [sO_at]
          unfold AW
          rw [t39, t40]
          omega
        have hN := RN_x hJ hMW e18 e3
        have hok : P (64 * d + 8 * a + b) = decide (fWr (V g) (runF (V g) T) = -2) := by
          rw [hP, okX_at ha0 (show a < b by omega) b1 y1.2]
          exact okM_T hG (by rw [e18]; exact hvw) (VE_t e18 t39 t40) hvw hM hMT
        have hFr : ∀ k, 35 < k → runF (V g) T k = T k := fun k hk => by rw [runF_eq, Fr_days k (by omega)]
        have hAR : AQ (V 305) (runF (V g) T) := hAT.fr Fr_run
        refine WW_se (WW_cV (PE_aCR (PE_lR rfl) PE_a0) hn (cc_210 hRW ⟨rfl, SQ_n ?_⟩) (by omega))
        rw [sO_sO, eg, sO_at]
        have p268 := pc_268 hN
        rw [eg, sO_at] at p268
        obtain ⟨Z, hZ⟩ : ∃ Z, Z = runF (V g) T := ⟨_, rfl⟩
        rw [← hZ] at p268 hok hFr hAR hN ⊢
        have z39 : Z 39 0 = -1 := by rw [hFr 39 (by omega)]; exact t39
        have z40 : Z 40 0 = -1 := by rw [hFr 40 (by omega)]; exact t40
        have hFZ : FO (V g) (V 305 18) i Z (64 * d + 8 * a + b) := by
          unfold FO
          rw [hFr 42 (by omega), hFr 43 (by omega), hFr 44 (by omega), To 42 (by decide) (by decide) (by decide), To 43 (by decide) (by decide) (by decide), To 44 (by decide) (by decide) (by decide)]
          exact hF
        have hpe := PE_cm (op := .ne) (PE_cI (L := [some (vR (some 305)), some (vI i), some (vI (cnt (64 * d + 8 * a + b).toNat P)), some (vI d), some (vI a), some (vI b)]) (PE_aCR (PE_lR (i := 0) rfl) PE_a0) hn p268 (by omega : 4 ≤ dd)) (PE_kI (z := -2))
        have cs := cnt_s (P := P) (j := 64 * d + 8 * a + b) (by omega)
        have c840 := okX_840 (G := V g) (v := V 305 18) (x := 64 * d + 8 * a + b) (by omega)
        rw [← hP] at c840
        refine WW_se (WW_if hpe (fun hb => ?_) (fun hb => WW_sk (SQ_n ?_)))
        · have hne : ¬ fWr (V g) Z = -2 := of_decide_eq_true hb
          have hf : P (64 * d + 8 * a + b) = false := by rw [hok]; exact decide_eq_false hne
          rw [if_neg (by rw [hf]; decide)] at cs
          refine WW_cn (SQ_s (LQ_c ⟨rfl, Z, ?_, rfl, rfl, hAR, z39, z40, FO_gap hFZ fun j j0 j1 => ?_⟩))
          · rw [show 64 * d + 8 * a + (b + 1) = 64 * d + 8 * a + b + 1 by omega, cs, Int.add_zero]
            rfl
          · have : j = 64 * d + 8 * a + b := by omega
            rw [this, ← hP]
            exact hf
        · have he : fWr (V g) Z = -2 := Classical.not_not.mp (of_decide_eq_false hb)
          have ht : P (64 * d + 8 * a + b) = true := by rw [hok]; exact decide_eq_true he
          rw [if_pos ht] at cs
          have eL : ∀ x : Int, x = 64 * d + 8 * a + (b + 1) → cnt (64 * d + 8 * a + b).toNat P + 1 = cnt x.toNat P := fun x hx => by rw [hx, show 64 * d + 8 * a + (b + 1) = 64 * d + 8 * a + b + 1 by omega, cs]
          by_cases hi : cnt (64 * d + 8 * a + b).toNat P = i
          · refine WW_se (WW_if (PE_cm (PE_lI rfl) (PE_lI rfl)) (fun _ => ?_) (fun hb => absurd hi (of_decide_eq_false hb)))
            refine WW_se (WW_pf rfl (PE_lR rfl) k_305 (PE_lI rfl) (SQ_n (WW_se (WW_pf rfl (PE_lR rfl) k_305 (PE_lI rfl) (SQ_n (WW_pf rfl (PE_lR rfl) k_305 (PE_lI rfl) (SQ_n (WW_in rfl (LQ_n ⟨rfl, s1 (s1 (s1 Z 42 d) 43 a) 44 b, ?_, rfl, ?_, ((hAR.ws (by omega)).ws (by omega)).ws (by omega), ?_, ?_, fun y yy0 yy1 hy hc => ?_⟩)))))))))
            · rw [zAdd_id (by omega) (by omega), eL _ rfl]
              rfl
            · simp only [sM, sO_sO, sO_at, s1]
            · rw [s1_o (by decide), s1_o (by decide), s1_o (by decide)]; exact z39
            · rw [s1_o (by decide), s1_o (by decide), s1_o (by decide)]; exact z40
            · have ey : y = 64 * d + 8 * a + b := by
                by_cases e1 : y = 64 * d + 8 * a + b
                · exact e1
                · have hlt := cnt_lt yy0 hy (n := (64 * d + 8 * a + b).toNat) (by omega)
                  rw [← hP] at hlt hc
                  omega
              subst ey
              refine ⟨?_, ?_, ?_⟩
              · rw [s1_o (by decide), s1_o (by decide), s1_r, if_pos rfl]; omega
              · rw [s1_o (by decide), s1_r, if_pos rfl]; omega
              · rw [s1_r, if_pos rfl]; omega
          · refine WW_se (WW_if (PE_cm (PE_lI rfl) (PE_lI rfl)) (fun hb => absurd (of_decide_eq_true hb) hi) (fun _ => WW_sk (SQ_n (WW_in rfl (LQ_n ⟨rfl, Z, ?_, rfl, rfl, hAR, z39, z40, fun y yy0 yy1 hy hc => ?_⟩)))))
            · rw [zAdd_id (by omega) (by omega), eL _ rfl]
              rfl
            · by_cases e1 : y = 64 * d + 8 * a + b
              · subst e1
                rw [← hP] at hc
                exact absurd hc hi
              · exact hFZ y yy0 (by omega) hy hc
      · rintro _ c _ ⟨Y, rfl, rfl, rfl, hA, h39, h40, hF⟩
        have hF := FO_gap (z := 64 * d + 8 * (a + 1)) hF fun j j0 j1 => okX_no (by omega)
        have ec : cnt (64 * d + 8 * a + V g 1 0).toNat P = cnt (64 * d + 8 * (a + 1)).toNat P := by
          rw [hP]
          exact (cnt_gp (by omega) (by omega) fun j j0 j1 => okX_no (by omega)).symm
        rw [ec]
        exact LQ_n ⟨rfl, Y, _, rfl, rfl, rfl, hA, h39, h40, hF⟩
    · rintro _ c _ ⟨Y, z5, rfl, rfl, rfl, hA, h39, h40, hF⟩
      have hF := FO_gap (z := 64 * (d + 1)) hF fun j j0 j1 => okX_no (by omega)
      have ec : cnt (64 * d + 8 * V g 1 0).toNat P = cnt (64 * (d + 1)).toNat P := by
        rw [hP]
        exact (cnt_gp (by omega) (by omega) fun j j0 j1 => okX_no (by omega)).symm
      rw [ec]
      exact LQ_n ⟨rfl, Y, _, _, rfl, rfl, rfl, hA, h39, h40, hF⟩
  · rintro _ c _ ⟨Y, z4, z5, rfl, rfl, rfl, hA, h39, h40, hF⟩
    exact SQ_n (WW_rt (PE_lI rfl) ⟨_, rfl, rfl, hq Y hA hF⟩)
variable {K D : oV}
theorem cc_272 (h : RH c V g K D) (hq : ∀ U, ME V U → R (some (vI (if fWd (V g) K D = -2 then 5 else 0))) c U) : CC 8 272 [vR (some 305)] c V R := by
  obtain ⟨m1, m2, m3⟩ := id h.1
  refine CC_of mt_272 gb_272 (by decide) (by decide) (rcb_o k_305) (Nat.le_of_ble_eq_true rfl) fun n dd hn hd => ?_
  show WW (bX13_refusesExplain (gOr n dd)) n [some (vR (some (305)))] _ _ _
  unfold bX13_refusesExplain
  have hn0 : 1000000000 ≤ n := hn
  refine WW_se (WW_if (PE_cn (PE_fP rfl (PE_lR rfl) k_305 m1)) (fun q => by cases q) (fun _ => WW_sk (SQ_n ?_)))
  refine WW_se (WW_cV (PE_aCR (PE_lR rfl) PE_a0) hn (cr_209 h fun U hU hN hD hO => ⟨rfl, SQ_n ?_⟩) (by omega))
  have eU : U g = V g := hU.1 g m3
  have p268 := pc_268 hN
  rw [fWd_eq hN.2.1 hD, eU] at p268
  refine WW_rt (PE_ite (PE_cm (PE_cI (PE_aCR (PE_lR rfl) PE_a0) hn p268 (by omega)) PE_kI) (fun _ => PE_kI) (fun _ => PE_kI)) ⟨_, rfl, rfl, ?_⟩
  have : (if cmB ClassFile.Cond.eq (fWd (V g) K D) (-2) = true then (5 : Int) else 0) = if fWd (V g) K D = -2 then 5 else 0 := by simp [cmB]
  rw [this]
  exact hq U hU
theorem pz_272 (hz : V 305 3 0 = -1) : PC 1 272 [vR (some 305)] c V (some (vI 1)) := by
  refine PC_of ?_
  refine CC_of mt_272 gb_272 (by decide) (by decide) (rcb_o k_305) (Nat.le_of_ble_eq_true rfl) fun n dd hn hd => ?_
  show WW (bX13_refusesExplain (gOr n dd)) n [some (vR (some (305)))] _ _ _
  unfold bX13_refusesExplain
  have hn0 : 1000000000 ≤ n := hn
  exact WW_se (WW_if (PE_cn (PE_f0 rfl (PE_lR rfl) k_305 hz)) (fun _ => WW_rt PE_kI (SQ_s ⟨_, rfl, rfl, rfl, rfl, rfl⟩)) (fun q => by cases q))
theorem RJ_of (h : RH c V g K D) : RJ c V g := ⟨h.1, h.2.1, h.2.2.1⟩
theorem qm_273 (h : RH c V g K D) (hq5 : fWd (V g) K D = -2 → ∀ V', mqV V V' 5 → R (some (vI (-1))) c V') (hq0 : ¬ fWd (V g) K D = -2 → ∀ V', mqV V V' 0 → R (some (vI (cnt (64 * V g 0 0).toNat (okX (V g) (V 305 18))))) c V') : CC 12 273 [vR (some 305)] c V R := by
  refine CC_of mt_273 gb_273 (by decide) (by decide) (rcb_o k_305) (Nat.le_of_ble_eq_true rfl) fun n dd hn hd => ?_
  show WW (bX13_explains (gOr n dd)) n [some (vR (some (305))), none] _ _ _
  unfold bX13_explains
  have hn0 : 1000000000 ≤ n := hn
  refine WW_se (WW_pf rfl (PE_lR rfl) k_305 PE_kI (SQ_n ?_))
  have hme : ME V (sM V 305 0 (fun _ => 0)) := ME_sM ME.rf (by omega)
  generalize sM V 305 0 (fun _ => (0 : Int)) = W at hme ⊢
  have hW := RH_me h hme
  have hm := hW.1
  have eg : V g = W g := (hme.1 g hm.2.2).symm
  have e18 : V 305 18 = W 305 18 := (hme.2 18 (by omega) (by omega)).symm
  rw [eg, e18] at hq0
  rw [eg] at hq5
  refine WW_se (WW_stE (EE_cIx hn (EE_pe (PE_aCR (PE_lR rfl) PE_a0) (cc_272 hW fun U hU => ⟨_, rfl, SQ_n ?_⟩)) (by omega)))
  have hU18 : U 305 18 = W 305 18 := hU.2 18 (by omega) (by omega)
  have hUg : U g = W g := hU.1 g hm.2.2
  by_cases hc : fWd (W g) K D = -2
  · rw [if_pos hc]
    refine WW_rtE (EE_ite (EE_pe (PE_cz (PE_lI rfl)) ⟨fun _ => ?_, fun hb => by simp [cmB] at hb⟩))
    exact EE_cIx hn (EE_pe (PE_aCR (PE_lR rfl) (PE_aCI (PE_lI rfl) PE_a0)) (cc_172 ⟨_, rfl, _, rfl, rfl, hq5 hc _ (mqV_g (hme.tr hU))⟩)) (by omega)
  · rw [if_neg hc]
    refine WW_rtE (EE_ite (EE_pe (PE_cz (PE_lI rfl)) ⟨(fun hb => by simp [cmB] at hb), fun _ => ?_⟩))
    refine EE_cIx hn (EE_aCR (EE_pe (PE_lR rfl) (EE_aCI (EE_cIx hn (EE_pe (PE_aCR (PE_lR rfl) (PE_aCI PE_kI PE_a0)) (cc_271 (RJ_me (RJ_of hW) hU) fun Y hA hF => ⟨_, rfl, EE_pe PE_a0 (CC_le (cc_174 ⟨_, rfl, _, rfl, rfl, ?_⟩) (Nat.le_refl 1))⟩)) (by omega))))) (by omega)
    rw [hUg, hU18]
    exact hq0 hc _ (mqV_g (hme.tr (hU.tr (ME_sO ME.rf hA))))
theorem qz_273 (hz : V 305 3 0 = -1) (hq : ∀ V', mqV V V' 1 → R (some (vI (-1))) c V') : CC 12 273 [vR (some 305)] c V R := by
  refine CC_of mt_273 gb_273 (by decide) (by decide) (rcb_o k_305) (Nat.le_of_ble_eq_true rfl) fun n dd hn hd => ?_
  show WW (bX13_explains (gOr n dd)) n [some (vR (some (305))), none] _ _ _
  unfold bX13_explains
  have hn0 : 1000000000 ≤ n := hn
  refine WW_se (WW_pf rfl (PE_lR rfl) k_305 PE_kI (SQ_n ?_))
  have hme : ME V (sM V 305 0 (fun _ => 0)) := ME_sM ME.rf (by omega)
  have hz' : sM V 305 0 (fun _ => (0 : Int)) 305 3 0 = -1 := by rw [sM_k (by decide)]; exact hz
  refine WW_se (WW_st (PE_cI (PE_aCR (PE_lR rfl) PE_a0) hn (pz_272 hz') (by omega)) (SQ_n ?_))
  refine WW_rtE (EE_ite (EE_pe (PE_cz (PE_lI rfl)) ⟨fun _ => ?_, fun hb => by simp [cmB] at hb⟩))
  exact EE_cIx hn (EE_pe (PE_aCR (PE_lR rfl) (PE_aCI (PE_lI rfl) PE_a0)) (cc_172 ⟨_, rfl, _, rfl, rfl, hq _ (mqV_g hme)⟩)) (by omega)
/-- a part of a code -/
def prtF (x w : Int) : Int := if w = 0 then x / 64 else if w = 1 then x / 8 % 8 else x % 8
theorem qm_274 {i w : Int} (h : RH c V g K D) (hq1 : ¬ (0 ≤ w ∧ w ≤ 2) → ∀ V', mqV V V' 1 → R (some (vI (-1))) c V') (hq5 : (0 ≤ w ∧ w ≤ 2) → fWd (V g) K D = -2 → ∀ V', mqV V V' 5 → R (some (vI (-1))) c V') (hq2 : (0 ≤ w ∧ w ≤ 2) → ¬ fWd (V g) K D = -2 → ¬ (0 ≤ i ∧ i < cnt (64 * V g 0 0).toNat (okX (V g) (V 305 18))) → ∀ V', mqV V V' 1 → R (some (vI (-1))) c V') (hq0 : (0 ≤ w ∧ w ≤ 2) → ¬ fWd (V g) K D = -2 → ∀ x, 0 ≤ x → x < 64 * V g 0 0 → okX (V g) (V 305 18) x = true → cnt x.toNat (okX (V g) (V 305 18)) = i → ∀ V', mqV V V' 0 → R (some (vI (prtF x w))) c V') : CC 12 274 [vR (some 305), vI i, vI w] c V R := by
  refine CC_of mt_274 gb_274 (by decide) (by decide) (rcb_o k_305) (Nat.le_of_ble_eq_true rfl) fun n dd hn hd => ?_
  show WW (bX13_explain (gOr n dd)) n [some (vR (some (305))), some (vI (i)), some (vI (w)), none] _ _ _
  unfold bX13_explain
  have hn0 : 1000000000 ≤ n := hn
  refine WW_se (WW_pf rfl (PE_lR rfl) k_305 PE_kI (SQ_n ?_))
  have hme : ME V (sM V 305 0 (fun _ => 0)) := ME_sM ME.rf (by omega)
  generalize sM V 305 0 (fun _ => (0 : Int)) = W at hme ⊢
  have hW := RH_me h hme
  have hm := hW.1
  have y0 := hW.2.1.1
  have eg : V g = W g := (hme.1 g hm.2.2).symm
  have e18 : V 305 18 = W 305 18 := (hme.2 18 (by omega) (by omega)).symm
  rw [eg, e18] at hq0 hq2
  rw [eg] at hq5
  have p176 := PE_cB (L := [some (vR (some 305)), some (vI i), some (vI w), none]) (c := c) (V := W) (PE_aCI (PE_lI (i := 2) rfl) (PE_aCI (PE_kI (z := 0)) (PE_aCI (PE_kI (z := 2)) PE_a0))) hn (pc_176 (x := w) (y := 0) (z := 2)) (by omega : 1 ≤ dd)
  by_cases hwr : 0 ≤ w ∧ w ≤ 2
  · have et : (decide (0 ≤ w) && decide (w ≤ 2)) = true := by rw [decide_eq_true hwr.1, decide_eq_true hwr.2]; rfl
    rw [et] at p176
    refine WW_se (WW_stE (EE_ite (EE_pe p176 ⟨fun _ => EE_cIx hn (EE_pe (PE_aCR (PE_lR rfl) PE_a0) (cc_272 hW fun U hU => ⟨_, rfl, SQ_n ?_⟩)) (by omega), fun q => by cases q⟩)))
    have hU18 : U 305 18 = W 305 18 := hU.2 18 (by omega) (by omega)
    have hUg : U g = W g := hU.1 g hm.2.2
    by_cases hc : fWd (W g) K D = -2
    · rw [if_pos hc]
      refine WW_se (WW_if (PE_cz (PE_lI rfl)) (fun _ => ?_) (fun hb => by simp [cmB] at hb))
      exact WW_rtE (EE_cIx hn (EE_pe (PE_aCR (PE_lR rfl) (PE_aCI (PE_lI rfl) PE_a0)) (cc_172 ⟨_, rfl, SQ_s ⟨_, rfl, rfl, hq5 hwr hc _ (mqV_g (hme.tr hU))⟩⟩)) (by omega))
    · rw [if_neg hc]
      refine WW_se (WW_if (PE_cz (PE_lI rfl)) (fun hb => by simp [cmB] at hb) (fun _ => WW_sk (SQ_n ?_)))
      by_cases hi : i < 0
      · refine WW_se (WW_ifE (EE_or (EE_pe (PE_cz (PE_lI rfl)) ⟨fun _ => ⟨fun _ => ?_, (fun q => by cases q)⟩, fun hb => absurd hi (of_decide_eq_false hb)⟩)))
        exact WW_rtE (EE_cIx hn (EE_pe (PE_aCR (PE_lR rfl) (PE_aCI PE_kI PE_a0)) (cc_172 ⟨_, rfl, SQ_s ⟨_, rfl, rfl, hq2 hwr hc (by omega) _ (mqV_g (hme.tr hU))⟩⟩)) (by omega))
      · refine WW_se (WW_ifE (EE_or (EE_pe (PE_cz (PE_lI rfl)) ⟨fun hb => absurd (of_decide_eq_true hb) hi, fun _ => EE_cm (EE_pe (PE_lI rfl) (EE_cIx hn (EE_pe (PE_aCR (PE_lR rfl) (PE_aCI (PE_lI rfl) PE_a0)) (cc_271 (RJ_me (RJ_of hW) hU) fun Y hA hF => ⟨_, rfl, ?_⟩)) (by omega)))⟩)))
        rw [hUg, hU18] at hF ⊢
        have hmY : ME V (sO U 305 Y) := hme.tr (hU.tr (ME_sO ME.rf hA))
        refine ⟨fun hb => ?_, fun hb => WW_sk (SQ_n ?_)⟩
        · have hge : i ≥ cnt (64 * W g 0 0).toNat (okX (W g) (W 305 18)) := of_decide_eq_true hb
          exact WW_rtE (EE_cIx hn (EE_pe (PE_aCR (PE_lR rfl) (PE_aCI PE_kI PE_a0)) (cc_172 ⟨_, rfl, SQ_s ⟨_, rfl, rfl, hq2 hwr hc (by omega) _ (mqV_g hmY)⟩⟩)) (by omega))
        · have hlt : ¬ i ≥ cnt (64 * W g 0 0).toNat (okX (W g) (W 305 18)) := of_decide_eq_false hb
          obtain ⟨x, x0, x1, x2, x3⟩ := cnt_sur (ok := okX (W g) (W 305 18)) (n := (64 * W g 0 0).toNat) (i := i.toNat) (by omega)
          rw [Int.toNat_of_nonneg (by omega)] at x3
          obtain ⟨f1, f2, f3⟩ := hF x x0 (by omega) x2 x3
          have hq := hq0 hwr hc x x0 (by omega) x2 x3 _ (mqV_g hmY)
          have p42 := PE_fI (ci := 13) (k := 42) (c := c) (V := sO U 305 Y) (L := [some (vR (some 305)), some (vI i), some (vI w), some (vI 0)]) rfl (PE_lR (i := 0) rfl) k_305
          have p43 := PE_fI (ci := 13) (k := 43) (c := c) (V := sO U 305 Y) (L := [some (vR (some 305)), some (vI i), some (vI w), some (vI 0)]) rfl (PE_lR (i := 0) rfl) k_305
          have p44 := PE_fI (ci := 13) (k := 44) (c := c) (V := sO U 305 Y) (L := [some (vR (some 305)), some (vI i), some (vI w), some (vI 0)]) rfl (PE_lR (i := 0) rfl) k_305
          rw [sO_at, f1] at p42
          rw [sO_at, f2] at p43
          rw [sO_at, f3] at p44
          have pv := PE_ite (PE_cz (op := .eq) (PE_lI (i := 2) rfl)) (fun _ => p42) (fun _ => PE_ite (PE_cm (op := .eq) (PE_lI (i := 2) rfl) (PE_kI (z := 1))) (fun _ => p43) (fun _ => p44))
          have ev : (if cmB ClassFile.Cond.eq w 0 = true then x / 64 else if cmB ClassFile.Cond.eq w 1 = true then x / 8 % 8 else x % 8) = prtF x w := by
            unfold prtF
            simp [cmB]
          rw [ev] at pv
          exact WW_rtE (EE_cIx hn (EE_pe (PE_aCR (PE_lR rfl) (PE_aCI pv PE_a0)) (cc_174 ⟨_, rfl, _, rfl, rfl, hq⟩)) (by omega))
  · have et : (decide (0 ≤ w) && decide (w ≤ 2)) = false := by
      rw [← Bool.decide_and]
      exact decide_eq_false hwr
    rw [et] at p176
    refine WW_se (WW_stE (EE_ite (EE_pe p176 ⟨(fun q => by cases q), fun _ => EE_pe PE_kI (SQ_n ?_)⟩)))
    refine WW_se (WW_if (PE_cz (PE_lI rfl)) (fun _ => ?_) (fun hb => by simp [cmB] at hb))
    exact WW_rtE (EE_cIx hn (EE_pe (PE_aCR (PE_lR rfl) (PE_aCI (PE_lI rfl) PE_a0)) (cc_172 ⟨_, rfl, SQ_s ⟨_, rfl, rfl, hq1 hwr _ (mqV_g hme)⟩⟩)) (by omega))
theorem qz_274 {i w : Int} (hz : V 305 3 0 = -1) (hq : ∀ V', mqV V V' 1 → R (some (vI (-1))) c V') : CC 12 274 [vR (some 305), vI i, vI w] c V R := by
  refine CC_of mt_274 gb_274 (by decide) (by decide) (rcb_o k_305) (Nat.le_of_ble_eq_true rfl) fun n dd hn hd => ?_
  show WW (bX13_explain (gOr n dd)) n [some (vR (some (305))), some (vI (i)), some (vI (w)), none] _ _ _
  unfold bX13_explain
  have hn0 : 1000000000 ≤ n := hn
  refine WW_se (WW_pf rfl (PE_lR rfl) k_305 PE_kI (SQ_n ?_))
  have hme : ME V (sM V 305 0 (fun _ => 0)) := ME_sM ME.rf (by omega)
  have hz' : sM V 305 0 (fun _ => (0 : Int)) 305 3 0 = -1 := by rw [sM_k (by decide)]; exact hz
  have p1 : PE (gIte (cB (gOr n dd) 176 (aCI (lI 2) (aCI (kI 0) (aCI (kI 2) (a0))))) (cI (gOr n dd) 272 (aCR (lR 0) (a0))) (kI 1)) [some (vR (some 305)), some (vI i), some (vI w), none] c (sM V 305 0 (fun _ => 0)) 1 := by
    have := PE_ite (PE_cB (L := [some (vR (some 305)), some (vI i), some (vI w), none]) (c := c) (V := sM V 305 0 (fun _ => 0)) (PE_aCI (PE_lI (i := 2) rfl) (PE_aCI (PE_kI (z := 0)) (PE_aCI (PE_kI (z := 2)) PE_a0))) hn (pc_176 (x := w) (y := 0) (z := 2)) (by omega : 1 ≤ dd)) (fun _ => PE_cI (PE_aCR (PE_lR (i := 0) rfl) PE_a0) hn (pz_272 hz') (by omega : 1 ≤ dd)) (fun _ => PE_kI (z := 1))
    rwa [ite_self] at this
  refine WW_se (WW_st p1 (SQ_n ?_))
  refine WW_se (WW_if (PE_cz (PE_lI rfl)) (fun _ => ?_) (fun hb => by simp [cmB] at hb))
  exact WW_rtE (EE_cIx hn (EE_pe (PE_aCR (PE_lR rfl) (PE_aCI (PE_lI rfl) PE_a0)) (cc_172 ⟨_, rfl, SQ_s ⟨_, rfl, rfl, hq _ (mqV_g hme)⟩⟩)) (by omega))
end XR
