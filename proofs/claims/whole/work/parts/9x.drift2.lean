/-! DRIFT in the class -/
section DR2
variable {c : cT} {V : Mem} {g : Nat} {R : Option gAV → cT → Mem → Prop}
theorem cc_315 {x : Int} (hq : R none c (sM V 302 0 (fun _ => x))) : CC 1 315 [vR (some (302 + 1)), vL x] c V R := by
  refine CC_of mt_315 gb_315 (by decide) (by decide) rcb_s (Nat.le_of_ble_eq_true rfl) fun n dd hn hd => ?_
  show WW (bJ7_fill_d0a16 (gOr n dd)) n [some (vR (some (302 + 1))), some (vL (x)), none, none, none] _ _ _
  unfold bJ7_fill_d0a16
  have hn0 : 1000000000 ≤ n := hn
  have hk0 : (tab 2)[0]? = some (2 + 2, 1, 8) := rfl
  refine WW_se (WW_se (WW_se (WW_st PE_kI (SQ_n (WW_st (PE_aN (ty := 2) (a := 302) (PE_lR rfl) k_302 hk0 (by decide)) (SQ_n ?_))))))
  refine WW_for 900000000 0 8 (fun j L1 c1 V1 => L1 = [some (vR (some (302 + 1))), some (vL x), none, some (vI j), some (vI 8)] ∧ c1 = c ∧ ∃ f, V1 = sM V 302 0 f ∧ ∀ i, 0 ≤ i → i < j → f i = x) (by omega) (by omega) (by omega) (by omega) ⟨rfl, rfl, V 302 0, by rw [sM_id], fun i i0 i1 => by omega⟩ ?_ ?_ ?_
  · rintro j _ _ _ j0 j1 ⟨rfl, rfl, f, rfl, hx⟩
    exact ⟨rfl, PE_lI rfl⟩
  · rintro j k' _ _ _ j0 j1 hk' ⟨rfl, rfl, f, rfl, hx⟩
    refine WW_as (ty := 2) (z := x) (a := 302) (PE_lR rfl) k_302 hk0 (by decide) (PE_lI rfl) j0 (by omega) (PE_lL rfl) rfl (LQ_n ⟨rfl, rfl, rfl, gUz f j x, ?_, fun i i0 i1 => ?_⟩)
    · rw [sM_sM, sM_at]
    · unfold gUz
      split
      · rfl
      · exact hx i i0 (by omega)
  · rintro _ _ _ ⟨rfl, rfl, f, rfl, hx⟩
    refine SQ_n (WW_ag (f2 := fun _ => x) (ty := 2) k_302 hk0 (by decide) (fun i i0 i1 => hx i i0 i1) ?_)
    exact WW_rtV ⟨_, rfl, rfl, hq⟩
theorem cc_27 {P r w M : Int} {f : Int → Int} (hg : mcl c.1 g = some 4) (e1 : V g 1 0 = P) (e3 : V g 3 0 = r) (hP : 2 ≤ P) (hP8 : P ≤ 8) (hr : 0 ≤ r) (hr1 : r ≤ 100) (hw : w = 100 * (P - 1)) (hf : ∀ k, 0 ≤ k → k < P → 0 ≤ f k ∧ f k ≤ M) (hM : M ≤ 300000000000) (hV : ∀ k, 0 ≤ k → k < P → V 302 0 k = f k) (hq : ∀ f' gL, (∀ k, 0 ≤ k → k < P → f' k = stp P r w f k) → R none c (sM (sM V 302 1 gL) 302 0 f')) : CC 1 27 [vR (some 302), vR (some g), vL w] c V R := by
  have n0 : g ≠ 302 := mcl_ne hg k_302 (by decide)
  have hk0 : (tab 2)[0]? = some (2 + 2, 1, 8) := rfl
  have hk1 : (tab 2)[1]? = some (2 + 2, 2, 8) := rfl
  have hw7 : w ≤ 700 := by omega
  have hfw : ∀ k, 0 ≤ k → k < P → 0 ≤ f k * w ∧ f k * w ≤ 210000000000000 := fun k k0 k1 => by
    have a := hf k k0 k1
    have b := mul_b a.1 a.2 (show 0 ≤ w by omega)
    have d := Int.mul_le_mul hM hw7 (by omega) (by omega)
    omega
  have hfr : ∀ k, 0 ≤ k → k < P → 0 ≤ f k * r ∧ f k * r ≤ 30000000000000 := fun k k0 k1 => by
    have a := hf k k0 k1
    have b := mul_b a.1 a.2 hr
    have d := Int.mul_le_mul hM hr1 hr (by omega)
    omega
  have hrr : ∀ i k, r * (f i - f k) = f i * r - f k * r := fun i k => by rw [Int.mul_comm, Int.sub_mul]
  refine CC_of mt_27 gb_27 (by decide) (by decide) (rcb_o k_302) (Nat.le_of_ble_eq_true rfl) fun n dd hn hd => ?_
  show WW (bX2_reachIn (gOr n dd)) n [some (vR (some (302))), some (vR (some (g))), some (vL (w)), none, none, none, none, none] _ _ _
  unfold bX2_reachIn
  have hn0 : 1000000000 ≤ n := hn
  have ez : zSub (V g 1 0) 1 = P - 1 := by rw [e1, zSub_id (by omega) (by omega)]
  refine WW_se (WW_se (WW_st (PE_o2 (PE_fI rfl (PE_lR rfl) hg) PE_kI) (SQ_n ?_)))
  rw [ez]
  refine WW_se (WW_se (WW_st PE_kI (SQ_n ?_)))
  refine WW_for2 900000000 0 P (fun j L1 c1 V1 => ∃ y, L1 = [some (vR (some 302)), some (vR (some g)), some (vL w), none, some (vI (P - 1)), some (vI j), y, none] ∧ c1 = c ∧ ∃ gL, V1 = sM V 302 1 gL ∧ ∀ k, 0 ≤ k → k < j → gL k = f k * w) (by omega) (by omega) (by omega) (by omega) ⟨none, rfl, rfl, V 302 1, by rw [sM_id], fun k k0 k1 => by omega⟩ ?_ ?_ ?_
  · rintro j _ _ _ j0 j1 ⟨y, rfl, rfl, gL, rfl, hL⟩
    refine ⟨rfl, ?_⟩
    have e : decide (j < P) = cmB .le j (P - 1) := by
      unfold cmB
      congr 1
      apply propext
      omega
    rw [e]
    exact PE_cm (PE_lI rfl) (PE_lI rfl)
  · rintro j k' _ c _ j0 j1 hk' ⟨y, rfl, rfl, gL, rfl, hL⟩
    have b := hfw j j0 j1
    have ev : sM V 302 1 gL 302 0 j = f j := by rw [sM_k (by decide)]; exact hV j j0 j1
    refine WW_asF (ty := 2) (z := f j * w) hk1 (by decide) (PE_lR rfl) k_302 (PE_lI rfl) j0 (by omega) (PE_o2 (PE_aF (ty := 2) hk0 (by decide) (PE_lR rfl) k_302 (PE_lI rfl) j0 (by omega)) (PE_lL rfl)) (by rw [ev, lMul_id2 (by omega) (by omega)]; rfl) (LQ_n ⟨rfl, y, rfl, rfl, gUz gL j (f j * w), by rw [sM_at, sM_sM], fun k k0 k1 => ?_⟩)
    unfold gUz
    split
    · rename_i e
      rw [e]
    · exact hL k k0 (by omega)
  · rintro _ c _ ⟨y, rfl, rfl, gL, rfl, hL⟩
    refine SQ_n (WW_se (WW_se (WW_st PE_kI (SQ_n ?_))))
    refine WW_for 900000000 0 (P - 1) (fun j L1 c1 V1 => ∃ y, L1 = [some (vR (some 302)), some (vR (some g)), some (vL w), none, some (vI (P - 1)), some (vI j), y, none] ∧ c1 = c ∧ ∃ gL, V1 = sM V 302 1 gL ∧ ∀ k, 0 ≤ k → k < P → gL k = stc r w f j k) (by omega) (by omega) (by omega) (by omega) ⟨y, rfl, rfl, gL, rfl, fun k k0 k1 => ?_⟩ ?_ ?_ ?_
    · rw [hL k k0 k1]
      unfold stc
      rw [if_neg (by omega), if_neg (by omega)]
      omega
    · rintro j _ _ _ j0 j1 ⟨y, rfl, rfl, gL, rfl, hL⟩
      exact ⟨rfl, PE_lI rfl⟩
    · rintro j k' _ c _ j0 j1 hk' ⟨y, rfl, rfl, gL, rfl, hL⟩
      have ezj : zAdd j 1 = j + 1 := zAdd_id (by omega) (by omega)
      have ev : ∀ k, 0 ≤ k → k < P → sM V 302 1 gL 302 0 k = f k := fun k k0 k1 => by rw [sM_k (by decide)]; exact hV k k0 k1
      have er : sM V 302 1 gL g 3 0 = r := by rw [sM_o n0]; exact e3
      have a1 := hfr j j0 (by omega)
      have a2 := hfr (j + 1) (by omega) (by omega)
      have b1 := hfw j j0 (by omega)
      have b2 := hfw (j + 1) (by omega) (by omega)
      have hf1 := hf j j0 (by omega)
      have hf2 := hf (j + 1) (by omega) (by omega)
      have ec : lMul (sM V 302 1 gL g 3 0) (lSub (sM V 302 1 gL 302 0 (zAdd j 1)) (sM V 302 1 gL 302 0 j)) = r * (f (j + 1) - f j) := by
        rw [er, ezj, ev (j + 1) (by omega) (by omega), ev j j0 (by omega), lSub_id (by omega) (by omega), lMul_id2 (by rw [hrr]; omega) (by rw [hrr]; omega)]
      refine WW_se (WW_stL (PE_o2 (PE_fI rfl (PE_lR rfl) hg) (PE_o2 (PE_aF (ty := 2) hk0 (by decide) (PE_lR rfl) k_302 (PE_o2 (PE_lI rfl) PE_kI) (by rw [ezj]; omega) (by rw [ezj]; omega)) (PE_aF (ty := 2) hk0 (by decide) (PE_lR rfl) k_302 (PE_lI rfl) j0 (by omega)))) (SQ_n ?_))
      rw [ec]
      have g1 : gL j = stc r w f j j := hL j j0 (by omega)
      have g2 : gL (j + 1) = stc r w f j (j + 1) := hL (j + 1) (by omega) (by omega)
      have s1' : stc r w f j (j + 1) = f (j + 1) * w := by unfold stc; rw [if_neg (by omega), if_neg (by omega)]; omega
      have s2' : 0 < j → stc r w f j j = f j * w - r * (f j - f (j - 1)) := fun q => by unfold stc; rw [if_neg (by omega), if_pos (by omega)]; omega
      have s3' : ¬ 0 < j → stc r w f j j = f j * w := fun q => by unfold stc; rw [if_neg (by omega), if_neg (by omega)]; omega
      have s4 : -300000000000000 ≤ stc r w f j j ∧ stc r w f j j ≤ 300000000000000 := by
        by_cases q : 0 < j
        · have a3 := hfr (j - 1) (by omega) (by omega)
          rw [s2' q, hrr]; omega
        · rw [s3' q]; omega
      have t1 : sM V 302 1 gL 302 1 j = gL j := by rw [sM_at]
      refine WW_se (WW_au (ty := 2) (z := stc r w f j j + r * (f (j + 1) - f j)) hk1 (by decide) (PE_lR rfl) k_302 (PE_lI rfl) j0 (by omega) (PE_lL rfl) (by rw [t1, g1, lAdd_id2 (by rw [hrr]; omega) (by rw [hrr]; omega)]; rfl) (SQ_n ?_))
      rw [sM_at, sM_sM]
      have t2 : sM V 302 1 (gUz gL j (stc r w f j j + r * (f (j + 1) - f j))) 302 1 (zAdd j 1) = gL (j + 1) := by rw [sM_at, ezj, gUz_ne (by omega)]
      refine WW_au (ty := 2) (z := stc r w f j (j + 1) - r * (f (j + 1) - f j)) hk1 (by decide) (PE_lR rfl) k_302 (PE_o2 (PE_lI rfl) PE_kI) (by rw [ezj]; omega) (by rw [ezj]; omega) (PE_lL rfl) (by rw [t2, g2, lSub_id (by rw [s1', hrr]; omega) (by rw [s1', hrr]; omega)]; rfl) (LQ_n ⟨rfl, _, rfl, rfl, gUz (gUz gL j (stc r w f j j + r * (f (j + 1) - f j))) (j + 1) (stc r w f j (j + 1) - r * (f (j + 1) - f j)), by rw [sM_at, sM_sM, ezj], fun k k0 k1 => ?_⟩)
      unfold gUz
      by_cases q1 : k = j + 1
      · rw [if_pos q1, s1', q1]
        unfold stc
        rw [if_neg (by omega), if_pos (by omega)]
        have : j + 1 - 1 = j := by omega
        rw [this]
        omega
      · rw [if_neg q1]
        by_cases q2 : k = j
        · rw [if_pos q2, q2]
          unfold stc
          rw [if_neg (show ¬ j < j by omega), if_pos (show j < j + 1 by omega)]
          by_cases q3 : 0 < j
          · rw [if_pos (by omega), if_pos (by omega)]; omega
          · rw [if_neg (by omega), if_neg (by omega)]; omega
        · rw [if_neg q2, hL k k0 k1]
          unfold stc
          by_cases q3 : k < j
          · have q5 : k < j + 1 := by omega
            have q6 : k ≤ j := by omega
            have q7 : k ≤ j + 1 := by omega
            simp only [q3, q5, q6, q7]
          · have q5 : ¬ k < j + 1 := by omega
            have q6 : ¬ k ≤ j := by omega
            have q7 : ¬ k ≤ j + 1 := by omega
            simp only [q3, q5, q6, q7]
    · rintro _ c _ ⟨y, rfl, rfl, gL, rfl, hL⟩
      refine SQ_n ?_
      refine WW_cp (ty := 2) (f := gL) (PE_fA (ty := 2) hk1 (by decide) (PE_lR rfl) k_302) k_302 hk1 (by decide) PE_kI (PE_fA (ty := 2) hk0 (by decide) (PE_lR rfl) k_302) k_302 hk0 PE_kI PE_kI (by decide) (by omega) (by omega) (by omega) (by decide) (by decide) (fun j j0 j1 => ?_) (SQ_n (WW_rtV ⟨_, rfl, rfl, hq gL gL fun k k0 k1 => ?_⟩))
      · rw [sM_at]
        unfold gCpy
        rw [if_pos (by omega)]
        congr 1
        omega
      · rw [hL k k0 k1]
        exact stc_eq hP k0 k1
/-- the two numbers of the answer -/
def drA (P r w pl : Int) (t : Nat) : Int := lDiv (chF P r w pl t pl) ((Nat.gcd (chF P r w pl t pl).toNat (pw w t).toNat : Nat) : Int)
def drB (P r w pl : Int) (t : Nat) : Int := lDiv (pw w t) ((Nat.gcd (chF P r w pl t pl).toNat (pw w t).toNat : Nat) : Int)
theorem cc_26 {P r w pl d : Int} (hg : mcl c.1 g = some 4) (e1 : V g 1 0 = P) (e3 : V g 3 0 = r) (hP : 2 ≤ P) (hP8 : P ≤ 8) (hr : 0 ≤ r) (hr1 : r ≤ 100) (hw : w = 100 * (P - 1)) (hpl : 0 ≤ pl) (hpl1 : pl < P) (hd0 : 0 ≤ d) (hd5 : d ≤ 5) (hq : ∀ V', (∀ a, a ≠ 302 → V' a = V a) → V' 302 2 0 = drA P r w pl d.toNat → V' 302 3 0 = drB P r w pl d.toNat → R none c V') : CC 3 26 [vR (some 302), vR (some g), vI pl, vI d] c V R := by
  have n0 : g ≠ 302 := mcl_ne hg k_302 (by decide)
  have hk0 : (tab 2)[0]? = some (2 + 2, 1, 8) := rfl
  refine CC_of mt_26 gb_26 (by decide) (by decide) (rcb_o k_302) (Nat.le_of_ble_eq_true rfl) fun n dd hn hd => ?_
  show WW (bX2_after (gOr n dd)) n [some (vR (some (302))), some (vR (some (g))), some (vI (pl)), some (vI (d)), none, none, none, none] _ _ _
  unfold bX2_after
  have hn0 : 1000000000 ≤ n := hn
  have ezw : lMul 100 (zSub (V g 1 0) 1) = w := by rw [e1, zSub_id (by omega) (by omega), lMul_id2 (by omega) (by omega), hw]
  refine WW_se (WW_se (WW_cVx hn (EE_pe (PE_aCR (PE_fA (ty := 2) hk0 (by decide) (PE_lR rfl) k_302) (PE_aCL PE_kI PE_a0)) (cc_315 (ex_V (SQ_n ?_)))) (by omega)))
  refine WW_se (WW_asF (ty := 2) (z := 1) hk0 (by decide) (PE_lR rfl) k_302 (PE_lI rfl) hpl (by omega) PE_kI rfl (SQ_n ?_))
  rw [sM_at, sM_sM]
  have hV0 : ∀ k, 0 ≤ k → k < P → sM V 302 0 (gUz (fun _ => 0) pl 1) 302 0 k = chF P r w pl 0 k := fun k k0 k1 => by
    rw [sM_at]
    rfl
  have ho : ∀ a, a ≠ 302 → sM V 302 0 (gUz (fun _ => 0) pl 1) a = V a := fun a ha => sM_o ha
  generalize sM V 302 0 (gUz (fun _ => 0) pl 1) = W at hV0 ho ⊢
  refine WW_se (WW_stL (PE_o2 PE_kI (PE_o2 (PE_fI rfl (PE_lR rfl) hg) PE_kI)) (SQ_n ?_))
  rw [ho g n0, ezw]
  refine WW_se (WW_pfL rfl (PE_lR rfl) k_302 PE_kI (SQ_n (WW_se (WW_se (WW_st PE_kI (SQ_n ?_))))))
  refine WW_for 900000000 0 d (fun j L1 c1 V1 => L1 = [some (vR (some 302)), some (vR (some g)), some (vI pl), some (vI d), some (vL w), none, some (vI j), none] ∧ c1 = c ∧ ∃ U, V1 = U ∧ (∀ a, a ≠ 302 → U a = V a) ∧ (∀ k, 0 ≤ k → k < P → U 302 0 k = chF P r w pl j.toNat k) ∧ U 302 3 0 = pw w j.toNat) (by omega) (by omega) (by omega) (by omega) ⟨rfl, rfl, _, rfl, fun a ha => by rw [sM_o ha]; exact ho a ha, fun k k0 k1 => by rw [sM_k (by decide)]; exact hV0 k k0 k1, by rw [sM_at]; rfl⟩ ?_ ?_ ?_
  · rintro j _ _ _ j0 j1 ⟨rfl, rfl, U, rfl, h1, h2, h3⟩
    exact ⟨rfl, PE_lI rfl⟩
  · rintro j k' _ c U j0 j1 hk' ⟨rfl, rfl, _, rfl, h1, h2, h3⟩
    have hpwj := pw_le (w := w) (by omega) (by omega) (t := j.toNat)
    have hpb := pwB_le (t := j.toNat) (by omega)
    have hpb4 : pwB j.toNat ≤ 240100000000 := by
      have : j = 0 ∨ j = 1 ∨ j = 2 ∨ j = 3 ∨ j = 4 := by omega
      rcases this with rfl | rfl | rfl | rfl | rfl <;> decide
    have hpw1 : pw w (j + 1).toNat = pw w j.toNat * w := by
      have : (j + 1).toNat = j.toNat + 1 := by omega
      rw [this]; rfl
    have hch1 : ∀ k, chF P r w pl (j + 1).toNat k = stp P r w (chF P r w pl j.toNat) k := fun k => by
      have : (j + 1).toNat = j.toNat + 1 := by omega
      rw [this]; rfl
    refine WW_se (WW_cVx hn (EE_pe (PE_aCR (PE_lR rfl) (PE_aCR (PE_lR rfl) (PE_aCL (PE_lL rfl) PE_a0))) (cc_27 (P := P) (r := r) (M := pw w j.toNat) (f := chF P r w pl j.toNat) hg (by rw [h1 g n0]; exact e1) (by rw [h1 g n0]; exact e3) hP hP8 hr hr1 hw (fun k k0 k1 => chF_le hP hr hr1 hw k0 k1) (by omega) h2 (fun f' gL hf' => ex_V (SQ_n ?_)))) (by omega))
    have f3 : sM (sM U 302 1 gL) 302 0 f' 302 3 0 = pw w j.toNat := by rw [sM_k (by decide), sM_k (by decide)]; exact h3
    have hmul : pw w j.toNat * w ≤ 240100000000 * 700 := Int.mul_le_mul (by omega) (by omega) (by omega) (by omega)
    have hmul0 : 0 ≤ pw w j.toNat * w := Int.mul_nonneg (by omega) (by omega)
    refine WW_puL rfl (PE_lR rfl) k_302 (PE_lL rfl) (LQ_n ⟨rfl, rfl, rfl, _, rfl, fun a ha => ?_, fun k k0 k1 => ?_, ?_⟩)
    · rw [sM_o ha, sM_o ha, sM_o ha]; exact h1 a ha
    · rw [sM_k (by decide), sM_at, hf' k k0 k1, hch1]
    · rw [sM_at, f3, lMul_id2 (by omega) (by omega), hpw1]
  · rintro _ c U ⟨rfl, rfl, _, rfl, h1, h2, h3⟩
    have hpwd := pw_le (w := w) (by omega) (by omega) (t := d.toNat)
    have hpb := pwB_le (t := d.toNat) (by omega)
    have hcb := chF_le (pl := pl) (t := d.toNat) hP hr hr1 hw hpl hpl1
    have ha : U 302 0 pl = chF P r w pl d.toNat pl := h2 pl hpl hpl1
    refine SQ_n (WW_se (WW_pfL rfl (PE_lR rfl) k_302 (PE_aF (ty := 2) hk0 (by decide) (PE_lR rfl) k_302 (PE_lI rfl) hpl (by omega)) (SQ_n ?_)))
    rw [ha]
    have q2 : sM U 302 2 (fun _ => chF P r w pl d.toNat pl) 302 2 0 = (((chF P r w pl d.toNat pl).toNat : Nat) : Int) := by rw [sM_at]; omega
    have q3 : sM U 302 2 (fun _ => chF P r w pl d.toNat pl) 302 3 0 = (((pw w d.toNat).toNat : Nat) : Int) := by rw [sM_k (by decide), h3]; omega
    have qo : ∀ a, a ≠ 302 → sM U 302 2 (fun _ => chF P r w pl d.toNat pl) a = V a := fun a ha => by rw [sM_o ha]; exact h1 a ha
    have hgp : 0 < Nat.gcd (chF P r w pl d.toNat pl).toNat (pw w d.toNat).toNat := Nat.gcd_pos_of_pos_right _ (by omega)
    unfold drA drB at hq
    have eA : chF P r w pl d.toNat pl = (((chF P r w pl d.toNat pl).toNat : Nat) : Int) := by omega
    have eB : pw w d.toNat = (((pw w d.toNat).toNat : Nat) : Int) := by omega
    have hA : (chF P r w pl d.toNat pl).toNat ≤ 400000000000000 := by omega
    have hB : (pw w d.toNat).toNat ≤ 400000000000000 := by omega
    have hB0 : 0 < (pw w d.toNat).toNat := by omega
    generalize sM U 302 2 (fun _ => chF P r w pl d.toNat pl) = X at *
    generalize (chF P r w pl d.toNat pl).toNat = aa at *
    generalize (pw w d.toNat).toNat = bb at *
    rw [eA, eB] at hq
    have hp28 : PC 1 28 [vL (X 302 2 0), vL (X 302 3 0)] c X (some (vL ((Nat.gcd aa bb : Nat) : Int))) := by
      rw [q2, q3]
      exact pc_28 hA hB0 hB
    refine WW_se (WW_stL (PE_cL (PE_aCL (PE_fL rfl (PE_lR rfl) k_302) (PE_aCL (PE_fL rfl (PE_lR rfl) k_302) PE_a0)) hn hp28 (by omega)) (SQ_n ?_))
    have hG0 : (0 : Int) < ((Nat.gcd aa bb : Nat) : Int) := by omega
    have hGn : ¬ ((Nat.gcd aa bb : Nat) : Int) = 0 := by omega
    refine WW_if (PE_cm (PE_lL rfl) PE_kI) (fun _ => ?_) (fun hb => absurd hG0 (of_decide_eq_false hb))
    refine WW_se (WW_puLp rfl (PE_lR rfl) k_302 (PE_lL rfl) hGn (SQ_n (WW_puLp rfl (PE_lR rfl) k_302 (PE_lL rfl) hGn (SQ_n (WW_rtV ⟨_, rfl, rfl, hq _ (fun a ha => ?_) ?_ ?_⟩)))))
    · rw [sM_o ha, sM_o ha]; exact qo a ha
    · rw [sM_k (by decide), sM_at, q2]
    · rw [sM_at, sM_k (by decide), q3]
end DR2
