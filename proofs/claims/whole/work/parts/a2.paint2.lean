/-! PAINTING in the class: finish, paint -/
def MT (M : Int → Int) (G : oV) : Prop := ∀ p q, 0 ≤ p → p < G 4 0 → 0 ≤ q → q < G 4 0 → ((¬ zAnd (M p) (zShl 1 q) = 0) ↔ togB G p q = true)
theorem hk60 : (tab 6)[0]? = some (0 + 2, 1, 7) := rfl
theorem hk61 : (tab 6)[1]? = some (0 + 2, 2, 7) := rfl
theorem cc_47 {G : oV} (hG : GW G) {nc : Int} (hn1 : 1 ≤ nc) (hn7 : nc ≤ 7) : ∀ (k : Nat) {c : cT} {V : Mem} {p : Int} {R : Option gAV → cT → Mem → Prop}, (G 4 0 - p).toNat = k → 0 ≤ p → p ≤ G 4 0 → MT (V 299 0) G → (∀ q, 0 ≤ q → q < p → (0 ≤ V 299 1 q ∧ V 299 1 q < nc) ∧ ∀ r, 0 ≤ r → r < q → togB G q r = true → V 299 1 r ≠ V 299 1 q) → (∀ f' b, (∀ q, 0 ≤ q → q < p → f' q = V 299 1 q) → (b = true → lexP G nc p (V 299 1) f') → (b = false → ∀ g, ¬ exT G nc p (V 299 1) g) → R (some (vB b)) c (sM V 299 1 f')) → CC (k + 1) 47 [vR (some (299 + 1)), vR (some (299 + 2)), vI (G 4 0), vI nc, vI p] c V R := by
  have y4 := hG.2.2.2.2.1
  intro k
  induction k with
  | zero =>
    intro c V p R hk hp0 hp4 hM hpre hq
    have hp : p = G 4 0 := by omega
    refine CC_of mt_47 gb_47 (by decide) (by decide) rcb_s (Nat.le_of_ble_eq_true rfl) fun n dd hn hd => ?_
    show WW (bX6_finish (gOr n dd)) n [some (vR (some (299 + 1))), some (vR (some (299 + 2))), some (vI (G 4 0)), some (vI (nc)), some (vI (p)), none, none, none] _ _ _
    unfold bX6_finish
    have hn0 : 1000000000 ≤ n := hn
    have hq' := hq (V 299 1) true (fun _ _ _ => rfl) (fun _ => ⟨⟨fun q q0 q1 => hpre q q0 (by omega), fun _ _ _ => rfl⟩, fun g hg => Or.inl fun q q0 q1 => hg.2 q q0 (by omega)⟩) (fun q => by cases q)
    rw [sM_id] at hq'
    refine WW_se (WW_if (PE_or (b' := true) (PE_cm (PE_lI rfl) (PE_lI rfl)) (fun hb => ?_)) (fun _ => WW_rtB PE_kB (SQ_s ⟨_, rfl, rfl, hq'⟩)) (fun hb => ?_))
    · have := of_decide_eq_false hb
      omega
    · simp [cmB] at hb
  | succ k ih =>
    intro c V p R hk hp0 hp4 hM hpre hq
    have hpl : p < G 4 0 := by omega
    have hkk : (G 4 0 - (p + 1)).toNat = k := by omega
    have hp10 : 0 ≤ p + 1 := by omega
    have hp14 : p + 1 ≤ G 4 0 := by omega
    obtain ⟨f, hf⟩ : ∃ f, f = V 299 1 := ⟨_, rfl⟩
    rw [← hf] at hpre hq
    refine CC_of mt_47 gb_47 (by decide) (by decide) rcb_s (Nat.le_of_ble_eq_true rfl) fun n dd hn hd => ?_
    show WW (bX6_finish (gOr n dd)) n [some (vR (some (299 + 1))), some (vR (some (299 + 2))), some (vI (G 4 0)), some (vI (nc)), some (vI (p)), none, none, none] _ _ _
    unfold bX6_finish
    have hn0 : 1000000000 ≤ n := hn
    refine WW_se (WW_if (PE_or (PE_cm (PE_lI rfl) (PE_lI rfl)) (fun _ => PE_cm (PE_lI rfl) PE_kI)) (fun hb => ?_) (fun _ => WW_sk (SQ_n ?_)))
    · simp [cmB] at hb
      omega
    refine WW_se (WW_st PE_kI (SQ_n (WW_se (WW_st PE_kI (SQ_n (WW_se (WW_se (WW_st PE_kI (SQ_n ?_)))))))))
    refine WW_for 900000000 0 p (fun j L1 c1 V1 => ∃ tk nx : Int, L1 = [some (vR (some (299 + 1))), some (vR (some (299 + 2))), some (vI (G 4 0)), some (vI nc), some (vI p), some (vI tk), some (vI nx), some (vI j)] ∧ c1 = c ∧ V1 = V ∧ (∀ x, 0 ≤ x → x < 8 → ((¬ zAnd tk (zShl 1 x) = 0) ↔ ∃ q, 0 ≤ q ∧ q < j ∧ togB G p q = true ∧ f q = x)) ∧ (0 ≤ nx ∧ nx ≤ nc) ∧ ∀ q, 0 ≤ q → q < j → f q < nx) (by omega) (by omega) (by omega) (by omega) ⟨0, 0, rfl, rfl, rfl, fun x x0 x1 => ⟨fun q => absurd zAnd_0 q, fun ⟨q, q0, q1, _⟩ => by omega⟩, by omega, fun q q0 q1 => by omega⟩ ?_ ?_ ?_
    · rintro j _ _ _ j0 j1 ⟨tk, nx, rfl, rfl, rfl, -⟩
      exact ⟨rfl, PE_lI rfl⟩
    · rintro j k' _ c V j0 j1 hk' ⟨tk, nx, rfl, rfl, rfl, ht, hx, hxx⟩
      have hfj := (hpre j j0 j1).1
      have hm1 := hM p j hp0 hpl j0 (by omega)
      have ez : zAdd (V 299 1 j) 1 = f j + 1 := by rw [← hf, zAdd_id (by omega) (by omega)]
      have emx : zMax nx (f j + 1) = if nx < f j + 1 then f j + 1 else nx := by unfold zMax; split <;> rfl
      have hpe1 : ∀ {L : gLo}, L[1]? = some (some (vR (some (299 + 2)))) → L[7]? = some (some (vI j)) → PE (aI 0 (lR 1) (lI 7)) L c V (V 299 1 j) := fun h1 h2 => PE_aR (a := 299) (PE_lR h1) k_299 hk61 (by decide) (PE_lI h2) j0 (by omega)
      refine WW_se (WW_st (PE_o2 (PE_lI rfl) (PE_ite (PE_cz (PE_o2 (PE_aR (a := 299) (PE_lR rfl) k_299 hk60 (by decide) (PE_lI rfl) hp0 (by omega)) (PE_o2 PE_kI (PE_lI rfl)))) (fun _ => PE_o2 PE_kI (hpe1 rfl rfl)) (fun _ => PE_kI))) (SQ_n (WW_st (PE_o2 (PE_lI rfl) (PE_o2 (hpe1 rfl rfl) PE_kI)) (LQ_n ⟨rfl, zOr tk (if cmB ClassFile.Cond.ne (zAnd (V 299 0 p) (zShl 1 j)) 0 = true then zShl 1 (V 299 1 j) else 0), if nx < f j + 1 then f j + 1 else nx, ?_, rfl, rfl, ?_, ?_, ?_⟩))))
      · rw [ez, emx]
        rfl
      · intro x x0 x1
        rw [zAnd_or, ht x x0 x1, ← hf]
        by_cases hT : togB G p j = true
        · have hT' : cmB ClassFile.Cond.ne (zAnd (V 299 0 p) (zShl 1 j)) 0 = true := by simpa [cmB] using hm1.mpr hT
          rw [if_pos hT', shl_ne hfj.1 (by omega) x0 x1]
          constructor
          · rintro (⟨q, q0, q1, q2, q3⟩ | e)
            · exact ⟨q, q0, by omega, q2, q3⟩
            · exact ⟨j, j0, by omega, hT, e⟩
          · rintro ⟨q, q0, q1, q2, q3⟩
            by_cases e : q = j
            · right; rw [← e]; exact q3
            · exact Or.inl ⟨q, q0, by omega, q2, q3⟩
        · have hT' : ¬ cmB ClassFile.Cond.ne (zAnd (V 299 0 p) (zShl 1 j)) 0 = true := by
            intro q
            exact hT (hm1.mp (by simpa [cmB] using q))
          rw [if_neg hT']
          constructor
          · rintro (⟨q, q0, q1, q2, q3⟩ | e)
            · exact ⟨q, q0, by omega, q2, q3⟩
            · exact absurd zAnd_0 e
          · rintro ⟨q, q0, q1, q2, q3⟩
            by_cases e : q = j
            · rw [e] at q2; exact absurd q2 hT
            · exact Or.inl ⟨q, q0, by omega, q2, q3⟩
      · split <;> omega
      · intro q q0 q1
        by_cases e : q = j
        · rw [e]; split <;> omega
        · have := hxx q q0 (by omega); split <;> omega
    · rintro _ c V ⟨tk, nx, rfl, rfl, rfl, ht, hx, hxx⟩
      refine SQ_n (WW_se (WW_se (WW_st PE_kI (SQ_n ?_))))
      obtain ⟨B, hB⟩ : ∃ B : Int, B = if nx + 1 < nc then nx + 1 else nc := ⟨_, rfl⟩
      have hBn : B ≤ nc ∧ B ≤ nx + 1 ∧ 0 ≤ B ∧ (B = nc ∨ B = nx + 1) := by rw [hB]; split <;> omega
      have ff : ∀ f f' : Int → Int, sM (sM V 299 1 f) 299 1 f' = sM V 299 1 f' := fun f f' => sM_sM
      refine WW_for2 900000000 0 B (fun j L1 c1 V1 => L1 = [some (vR (some (299 + 1))), some (vR (some (299 + 2))), some (vI (G 4 0)), some (vI nc), some (vI p), some (vI tk), some (vI nx), some (vI j)] ∧ c1 = c ∧ ∃ f1, V1 = sM V 299 1 f1 ∧ (∀ q, 0 ≤ q → q < p → f1 q = f q) ∧ ∀ g, exT G nc p f g → j ≤ g p) (by omega) (by omega) (by omega) (by omega) ⟨rfl, rfl, V 299 1, by rw [sM_id], fun q _ _ => by rw [hf], fun g hg => (hg.1 p hp0 hpl).1.1⟩ ?_ ?_ ?_
      · rintro j _ _ _ j0 j1 ⟨rfl, rfl, f1, rfl, h1, h2⟩
        refine ⟨rfl, ?_⟩
        have e : decide (j < B) = (cmB .le j nx && cmB .lt j nc) := by
          unfold cmB
          rw [← Bool.decide_and]
          congr 1
          apply propext
          omega
        rw [e]
        exact PE_and (PE_cm (PE_lI rfl) (PE_lI rfl)) (fun _ => PE_cm (PE_lI rfl) (PE_lI rfl))
      · rintro j k' _ c _ j0 j1 hk' ⟨rfl, rfl, f1, rfl, h1, h2⟩
        have htj := ht j j0 (by omega)
        by_cases htk : zAnd tk (zShl 1 j) = 0
        · have hfree : ∀ q, 0 ≤ q → q < p → togB G p q = true → f q ≠ j := fun q q0 q1 q2 q3 => (htj.mpr ⟨q, q0, q1, q2, q3⟩) htk
          refine WW_if (PE_cz (PE_o2 (PE_lI rfl) (PE_o2 PE_kI (PE_lI rfl)))) (fun _ => ?_) (fun hb => absurd htk (of_decide_eq_false hb))
          refine WW_se (WW_as (a := 299) (z := j) (PE_lR rfl) k_299 hk61 (by decide) (PE_lI rfl) hp0 (by omega) (PE_lI rfl) rfl (SQ_n ?_))
          rw [sM_at, ff]
          have e2 : ∀ q, q ≠ p → gUz f1 p j q = f1 q := fun q hq => gUz_ne hq
          have e3 : sM V 299 1 (gUz f1 p j) 299 1 = gUz f1 p j := by rw [sM_at]
          have ezp : zAdd p 1 = p + 1 := zAdd_id (by omega) (by omega)
          refine WW_ifE (EE_cBx hn (EE_pe (PE_aCR (PE_lR rfl) (PE_aCR (PE_lR rfl) (PE_aCI (PE_lI rfl) (PE_aCI (PE_lI rfl) (PE_aCI (PE_o2 (PE_lI rfl) PE_kI) PE_a0))))) ?_) (Nat.le_refl _ : dd ≤ dd))
          rw [ezp]
          refine CC_le (ih (p := p + 1) hkk hp10 hp14 (by rw [sM_k (by decide)]; exact hM) ?_ ?_) hd
          · rw [e3]
            intro q q0 q1
            by_cases e : q = p
            · subst e
              rw [gUz_at]
              refine ⟨by omega, fun r r0 r1 hT => ?_⟩
              rw [e2 r (by omega), h1 r r0 r1]
              exact hfree r r0 r1 hT
            · rw [e2 q e, h1 q q0 (by omega)]
              refine ⟨(hpre q q0 (by omega)).1, fun r r0 r1 hT => ?_⟩
              rw [e2 r (by omega), h1 r r0 (by omega)]
              exact (hpre q q0 (by omega)).2 r r0 r1 hT
          · rw [e3]
            intro f' b hb1 hb2 hb3
            rw [ff]
            have hfp : ∀ q, 0 ≤ q → q < p → f' q = f q := fun q q0 q1 => by rw [hb1 q q0 (by omega), e2 q (by omega), h1 q q0 q1]
            have hfj : f' p = j := by rw [hb1 p hp0 (by omega), gUz_at]
            have hext : ∀ g, exT G nc p f g → g p = j → exT G nc (p + 1) (gUz f1 p j) g := fun g hg hj => ⟨hg.1, fun q q0 q1 => by
              by_cases e : q = p
              · rw [e, gUz_at]; exact hj
              · rw [e2 q e, h1 q q0 (by omega)]; exact hg.2 q q0 (by omega)⟩
            refine ⟨b, rfl, fun hb => ?_, fun hb => ?_⟩
            · have hl := hb2 hb
              refine WW_rtB PE_kB (LQ_r ⟨_, rfl, rfl, hq f' true hfp (fun _ => ⟨⟨hl.1.1, hfp⟩, fun g hg => ?_⟩) (fun q => by cases q)⟩)
              by_cases e : g p = j
              · exact hl.2 g (hext g hg e)
              · have := h2 g hg
                exact Or.inr ⟨p, hp0, hpl, fun r r0 r1 => by rw [hfp r r0 r1]; exact hg.2 r r0 r1, by rw [hfj]; omega⟩
            · have hn2 := hb3 hb
              refine WW_sk (LQ_n ⟨rfl, rfl, rfl, f', rfl, hfp, fun g hg => ?_⟩)
              have := h2 g hg
              by_cases e : g p = j
              · exact absurd (hext g hg e) (hn2 g)
              · omega
        · refine WW_if (PE_cz (PE_o2 (PE_lI rfl) (PE_o2 PE_kI (PE_lI rfl)))) (fun hb => absurd (of_decide_eq_true hb) htk) (fun _ => WW_sk (LQ_n ⟨rfl, rfl, rfl, f1, rfl, h1, fun g hg => ?_⟩))
          obtain ⟨q, q0, q1, q2, q3⟩ := htj.mp htk
          have a := h2 g hg
          have b := (hg.1 p hp0 hpl).2 q q0 q1 q2
          rw [hg.2 q q0 q1, q3] at b
          omega
      · rintro _ c _ ⟨rfl, rfl, f1, rfl, h1, h2⟩
        refine SQ_n (WW_rtB PE_kB ⟨_, rfl, rfl, hq f1 false h1 (fun q => by cases q) (fun _ g hg => ?_)⟩)
        have a := h2 g hg
        have b := (hg.1 p hp0 hpl).1
        have d : B = nx + 1 := by omega
        obtain ⟨g', hg', e'⟩ := swap_ex hp0 hpl hg hxx hx.1 (show nx < g p by omega) rfl
        have := h2 g' hg'
        omega
