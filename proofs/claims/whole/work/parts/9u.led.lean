/-! LED -/
def ledF (P : Int → Bool) (i : Int) (n : Nat) : Int := fst1 (fun p => P p && decide (cnt p.toNat P = i)) (-1) n 0
def sinR (G S : oV) (p : Int) : Int := cnt (G 0 0).toNat (fun d => isSh (runF G (nS S)) d p)
def sinP (G S : oV) (p : Int) : Bool := decide (0 < sinR G S p)
theorem ledF_at {P : Int → Bool} {i : Int} {n : Nat} {p : Int} (hp : 0 ≤ p) (hp2 : p < n) (h1 : P p = true) (h2 : cnt p.toNat P = i) : ledF P i n = p := by
  refine fst1_at hp (by omega) (by simp [h1, h2]) fun q q0 q1 => ?_
  by_cases hq : P q = true
  · have hs := cnt_s (P := P) q0
    rw [if_pos hq] at hs
    have mono : ∀ (a b : Nat), a ≤ b → cnt a P ≤ cnt b P := fun a b hab => by
      induction b with
      | zero => have : a = 0 := by omega
                subst this; exact Int.le_refl _
      | succ b ih =>
        by_cases e : a = b + 1
        · subst e; exact Int.le_refl _
        · have := ih (by omega)
          show cnt a P ≤ cnt b P + _
          split <;> omega
    have := mono (q + 1).toNat p.toNat (by omega)
    have hne : ¬ cnt q.toNat P = i := by omega
    simp [hq, hne]
  · simp [hq]
theorem ledF_no {P : Int → Bool} {i : Int} {n : Nat} (h : ∀ p : Int, 0 ≤ p → p < n → P p = true → cnt p.toNat P ≠ i) : ledF P i n = -1 := by
  refine fst1_no fun p p0 p1 => ?_
  by_cases hp : P p = true
  · simp [hp, h p p0 (by omega) hp]
  · simp [hp]
/-- only the diary may have been written -/
def LF (V V' : Mem) : Prop := (∀ a, a ≠ 0 → a ≠ 235 → a ≠ 236 → V' a = V a) ∧ ∀ k, k ≠ 14 → V' 0 k = V 0 k
section LE
variable {c : cT} {V : Mem} {g : Nat} {G S : oV}
theorem TDY_td {V' : Mem} (h : TDY V S G g) (ht : TD V V') (hf : FD G S (V' 236) (V' 235)) : TDY V' S G g := by
  obtain ⟨h1, h2, h3⟩ := h
  have hs : SC V V' := TQ_SC (TQ_of ht)
  exact ⟨⟨h1.1, by rw [ht.2.1 2 (by decide)]; exact h1.2.1, by rw [ht.2.1 3 (by decide)]; exact h1.2.2⟩, GL0_sc h2 h1.1 hs AQ.rf, Or.inr ⟨ht.2.2, hf⟩⟩
theorem led_c {n d : Nat} {i : Int} (hib : i ≤ 2147483647) (hn : nB ≤ n) (hd : 20 ≤ d) (hT : TDY V S G g) : WW (bX11_led (gOr n d)) n [some (vR (some 0)), some (vI i), none, none] c V (fun ex _ c' V' => c' = c ∧ LF V V' ∧ TDY V' S G g ∧ ((ex = none ∧ ledF (sinP G S) i (G 4 0).toNat = -1) ∨ (ex = some (3, some (vI (ledF (sinP G S) i (G 4 0).toNat))) ∧ 0 ≤ ledF (sinP G S) i (G 4 0).toNat))) := by
  have hn0 : 1000000000 ≤ n := hn
  have hrf : LF V V := ⟨fun _ _ _ _ => rfl, fun _ _ => rfl⟩
  obtain ⟨z0, z1, z4, e0, e1, e4⟩ := GL_sz hT.2.1
  unfold bX11_led
  refine WW_se (WW_st (PE_lI rfl) (SQ_n (WW_se (WW_st PE_kI (SQ_n ?_)))))
  by_cases hi : 0 ≤ i
  · refine WW_for2 900000000 0 (G 4 0) (fun j L1 c1 V1 => ∃ W, L1 = [some (vR (some 0)), some (vI i), some (vI (i - cnt j.toNat (sinP G S))), some (vI j)] ∧ c1 = c ∧ V1 = W ∧ LF V W ∧ TDY W S G g ∧ cnt j.toNat (sinP G S) ≤ i ∧ ∀ p : Int, 0 ≤ p → p < j → sinP G S p = true → cnt p.toNat (sinP G S) < i) (by omega) (by omega) (by omega) (by omega) ⟨V, ?_, rfl, rfl, hrf, hT, hi, fun p p0 p1 => by omega⟩ ?_ ?_ ?_
    · show [some (vR (some 0)), some (vI i), some (vI i), some (vI 0)] = [some (vR (some 0)), some (vI i), some (vI (i - 0)), some (vI 0)]
      rw [Int.sub_zero]
    · rintro j _ c W j0 j1 ⟨_, rfl, rfl, rfl, hW, hTW, hc1, hc2⟩
      refine ⟨rfl, ?_⟩
      have h0 := gP_cG (c := c) hTW.1
      have eW := (GL_sz hTW.2.1).2.2.2.2.2
      have := PE_and (PE_cm (op := .lt) (PE_lI (i := 3) (L := [some (vR (some 0)), some (vI i), some (vI (i - cnt j.toNat (sinP G S))), some (vI j)]) (c := c) (V := W) rfl) (PE_cgl rfl h0 rfl eW)) (fun _ => PE_cz (op := .ge) (PE_lI (i := 2) (L := [some (vR (some 0)), some (vI i), some (vI (i - cnt j.toNat (sinP G S))), some (vI j)]) (c := c) (V := W) rfl))
      have e2 : cmB .ge (i - cnt j.toNat (sinP G S)) 0 = true := by simp [cmB]; omega
      rw [e2, Bool.and_true] at this
      exact this
    · rintro j k _ c W j0 j1 hk ⟨_, rfl, rfl, rfl, hW, hTW, hc1, hc2⟩
      have hcl := cnt_le (n := j.toNat) (P := sinP G S)
      refine WW_ifE (EE_cz (EE_aF rfl (by decide) (EE_cR (PE_aCR (PE_lR rfl) PE_a0) hn (cc_159 hTW fun W' hT' hf => ?_) (by omega))))
      have hTW' := TDY_td hTW hT' hf
      have hLF : LF V W' := ⟨fun a a0 a1 a2 => (hT'.1 a a0 a1 a2).trans (hW.1 a a0 a1 a2), fun q hq => (hT'.2.1 q hq).trans (hW.2 q hq)⟩
      have e8 : W' 235 8 j = sinR G S j := by
        have := (FD_dy hTW.2.1 hf).1.2.2.2.2.1.2.2.1 j
        rw [if_pos ⟨j0, j1⟩] at this
        exact this
      refine ⟨_, rfl, 235, rfl, k_235, j, PE_lI rfl, j0, by omega, ?_⟩
      rw [e8]
      have cs := cnt_s (P := sinP G S) j0
      by_cases hs : sinP G S j = true
      · rw [if_pos hs] at cs
        have hs' : 0 < sinR G S j := of_decide_eq_true hs
        refine ⟨fun _ => WW_se ?_, fun hb => absurd hs' (of_decide_eq_false hb)⟩
        by_cases he : cnt j.toNat (sinP G S) = i
        · refine WW_if (PE_cz (PE_lI rfl)) (fun _ => WW_rt (PE_lI rfl) (SQ_s (LQ_r ⟨rfl, hLF, hTW', Or.inr ?_⟩))) (fun hb => ?_)
          · have := ledF_at (i := i) (n := (G 4 0).toNat) j0 (by omega) hs he
            rw [this]
            exact ⟨rfl, j0⟩
          · have := of_decide_eq_false hb
            omega
        · refine WW_if (PE_cz (PE_lI rfl)) (fun hb => ?_) (fun _ => WW_sk (SQ_n (WW_in rfl (LQ_n ⟨rfl, W', ?_, rfl, rfl, hLF, hTW', by omega, fun p p0 p1 hp => ?_⟩))))
          · have := of_decide_eq_true hb
            omega
          · show [some (vR (some 0)), some (vI i), some (vI (zAdd (i - cnt j.toNat (sinP G S)) (-1))), some (vI (j + 1))] = _
            rw [zAdd_id (by omega) (by omega), cs]
            refine congrArg (fun z => [some (vR (some 0)), some (vI i), some (vI z), some (vI (j + 1))]) ?_
            omega
          · by_cases e : p = j
            · rw [e]; omega
            · exact hc2 p p0 (by omega) hp
      · rw [if_neg hs] at cs
        have hs' : ¬ 0 < sinR G S j := fun q => hs (decide_eq_true q)
        refine ⟨fun hb => absurd (of_decide_eq_true hb) hs', fun _ => WW_sk (LQ_n ⟨rfl, W', ?_, rfl, rfl, hLF, hTW', by omega, fun p p0 p1 hp => ?_⟩)⟩
        · rw [cs, Int.add_zero]
          rfl
        · by_cases e : p = j
          · rw [e] at hp; exact absurd hp hs
          · exact hc2 p p0 (by omega) hp
    · rintro _ c W ⟨_, rfl, rfl, rfl, hW, hTW, hc1, hc2⟩
      refine ⟨rfl, hW, hTW, Or.inl ⟨rfl, ledF_no fun p p0 p1 hp => ?_⟩⟩
      have := hc2 p p0 (by omega) hp
      omega
  · have hno : ledF (sinP G S) i (G 4 0).toNat = -1 := ledF_no fun p p0 p1 hp => by
      have := cnt_le (n := p.toNat) (P := sinP G S)
      omega
    refine WW_wh 900000000 (fun r L1 c1 V1 => L1 = [some (vR (some 0)), some (vI i), some (vI i), some (vI 0)] ∧ c1 = c ∧ V1 = V) ?_ 0 _ _ _ _ (by omega) ⟨rfl, rfl, rfl⟩
    rintro r k _ c V hk ⟨rfl, rfl, rfl⟩
    have h0 := gP_cG (c := c) hT.1
    refine EE_pe (PE_and (PE_cm (PE_lI rfl) (PE_cgl rfl h0 rfl e4)) (fun _ => PE_cz (PE_lI rfl))) ⟨fun hb => ?_, fun _ => ⟨rfl, hrf, hT, Or.inl ⟨rfl, hno⟩⟩⟩
    simp [cmB] at hb
    omega
theorem led_n {n d : Nat} {i : Int} (hn : nB ≤ n) (hP : gP V g) (h4 : V g 4 0 = 0) : WW (bX11_led (gOr n d)) n [some (vR (some 0)), some (vI i), none, none] c V (fun ex _ c' V' => c' = c ∧ V' = V ∧ ex = none) := by
  have hn0 : 1000000000 ≤ n := hn
  have h0 := gP_cG (c := c) hP
  unfold bX11_led
  refine WW_se (WW_st (PE_lI rfl) (SQ_n (WW_se (WW_st PE_kI (SQ_n ?_)))))
  refine WW_wh 900000000 (fun r L1 c1 V1 => L1 = [some (vR (some 0)), some (vI i), some (vI i), some (vI 0)] ∧ c1 = c ∧ V1 = V) ?_ 0 _ _ _ _ (by omega) ⟨rfl, rfl, rfl⟩
  rintro r k _ c V hk ⟨rfl, rfl, rfl⟩
  refine EE_pe (PE_and (PE_cm (PE_lI rfl) (PE_cgl rfl h0 rfl h4)) (fun _ => PE_cz (PE_lI rfl))) ⟨fun hb => ?_, fun _ => ⟨rfl, rfl, rfl⟩⟩
  simp [cmB] at hb
end LE
section LM
variable {c : cT} {V : Mem} {g : Nat} {R : Option gAV → cT → Mem → Prop}
theorem sinP_eq {G S S' : oV} (hG : GW G) (hv : VW G (S 18)) (e : S' 18 = S 18) {p : Int} (hp : 0 ≤ p) (hp7 : p < G 4 0) : sinR G S' p = sinR G S p := by
  have h1 := DY_run (K := S) (D := S) (v := S 18) (S := nS S) (g := 0) (w := 0) hG hv rfl VE_n
  have h2 := DY_run (K := S) (D := S) (v := S 18) (S := nS S') (g := 0) (w := 0) hG (by rw [nS_18, e]; exact hv) rfl (by
    have := VE_n (G := G) (S := S')
    rwa [e] at this)
  have a1 := h1.2.2.2.2.1.2.2.1 p
  have a2 := h2.2.2.2.2.1.2.2.1 p
  rw [if_pos ⟨hp, hp7⟩] at a1 a2
  unfold sinR
  rw [← a1, ← a2]
theorem qm_299 {i : Int} (hm0 : mG c V g) (hG : GW (V g)) (hv : VW (V g) (V 305 18)) (hq : ∀ V', ME V V' → V' 305 1 = V 305 1 → V' 305 2 = V 305 2 → (0 ≤ ledF (sinP (V g) (V 305)) i (V g 4 0).toNat → V' 305 0 0 = 0 → R (some (vI (ledF (sinP (V g) (V 305)) i (V g 4 0).toNat))) c V') ∧ (ledF (sinP (V g) (V 305)) i (V g 4 0).toNat = -1 → V' 305 0 0 = 1 → R (some (vI 0)) c V')) : CC 9 299 [vR (some 305), vI i] c V R := by
  refine CC_of mt_299 gb_299 (by decide) (by decide) (rcb_o k_305) (Nat.le_of_ble_eq_true rfl) fun n dd hn hd => ?_
  show WW (bX13_led (gOr n dd)) n [some (vR (some (305))), some (vI (i)), none, none] _ _ _
  unfold bX13_led
  have hn0 : 1000000000 ≤ n := hn
  refine WW_se (WW_pf rfl (PE_lR rfl) k_305 PE_kI (SQ_n ?_))
  have hme : ME V (sM V 305 0 (fun _ => 0)) := ME_sM ME.rf (by omega)
  have w0 : sM V 305 0 (fun _ => 0) 305 0 0 = 0 := by rw [sM_at]
  have w1 : sM V 305 0 (fun _ => 0) 305 1 = V 305 1 := sM_k (by decide)
  have w2 : sM V 305 0 (fun _ => 0) 305 2 = V 305 2 := sM_k (by decide)
  generalize sM V 305 0 (fun _ => (0 : Int)) = W at hme w0 w1 w2 ⊢
  have hJ : RJ c W g := RJ_me ⟨hm0, hG, hv⟩ hme
  obtain ⟨hm, hGW, hvW⟩ := id hJ
  obtain ⟨m1, m2, m3⟩ := id hm
  have eg : V g = W g := (hme.1 g m3).symm
  have e18 := hme.2 18 (by omega) (by omega)
  refine WW_se (WW_st PE_kI (SQ_n (WW_se (WW_if (PE_not (PE_cn (PE_fP rfl (PE_lR rfl) k_305 m1))) (fun _ => ?_) (fun q => by cases q)))))
  refine WW_cVx hn (EE_pe (PE_aCR (PE_lR rfl) PE_a0) (cc_209 hm hGW hvW (ex_V (SQ_n ?_)))) (by omega)
  have hN := RN_run (T := nS (W 305)) hJ (Or.inl rfl) rfl rfl rfl
  have hU : ME W (sO W 305 (runF (W g) (nS (W 305)))) := ME_sO ME.rf ((((AQ.rf.ws (by omega)).ws (by omega)).ws (by omega)).fr Fr_days)
  have u0 : ∀ k, k < 3 → sO W 305 (runF (W g) (nS (W 305))) 305 k = W 305 k := fun k hk => by
    rw [sO_at, runF_eq, Fr_days k (by omega)]
    unfold nS
    rw [s1_o (by omega), s1_o (by omega), s1_o (by omega)]
  have uR : sO W 305 (runF (W g) (nS (W 305))) 305 = runF (W g) (nS (W 305)) := sO_at
  have eWn : s1 (s1 (s1 (W 305) 36 (-1)) 39 (-1)) 40 (-1) = nS (W 305) := rfl
  rw [eWn]
  generalize sO W 305 (runF (W g) (nS (W 305))) = U at *
  have eU : U g = W g := hU.1 g m3
  have y4 := hGW.2.2.2.2.1
  have esin : ∀ p : Int, 0 ≤ p → p < W g 4 0 → cnt (U g 0 0).toNat (fun d => isSh (U 305) d p) = sinR (V g) (V 305) p := fun p p0 p1 => by
    rw [eU, uR]
    have := sinP_eq (S := V 305) (S' := W 305) (p := p) hG hv e18 p0 (by rw [eg]; exact p1)
    rw [← this, eg]
    rfl
  have hq := hq
  rw [eg] at esin hq
  refine WW_se (WW_se (WW_st PE_kI (SQ_n ?_)))
  refine WW_for2 900000000 0 (W g 4 0) (fun j L1 c1 V1 => L1 = [some (vR (some 305)), some (vI i), some (vI (cnt j.toNat (sinP (W g) (V 305)))), some (vI j)] ∧ c1 = c ∧ V1 = U ∧ ∀ p : Int, 0 ≤ p → p < j → sinP (W g) (V 305) p = true → cnt p.toNat (sinP (W g) (V 305)) ≠ i) (by omega) (by omega) (by omega) (by omega) ⟨rfl, rfl, rfl, fun p p0 p1 => by omega⟩ ?_ ?_ ?_
  · rintro j _ c U j0 j1 ⟨rfl, rfl, rfl, hj⟩
    refine ⟨rfl, ?_⟩
    have := PE_and (PE_not (PE_cn (PE_fP (L := [some (vR (some 305)), some (vI i), some (vI (cnt j.toNat (sinP (W g) (V 305)))), some (vI j)]) rfl (PE_lR (i := 0) rfl) k_305 hN.1.1))) (fun _ => PE_cm (op := .lt) (PE_lI (i := 3) (L := [some (vR (some 305)), some (vI i), some (vI (cnt j.toNat (sinP (W g) (V 305)))), some (vI j)]) rfl) (PE_gl rfl hN.1 rfl (show U g 4 0 = W g 4 0 by rw [eU])))
    exact this
  · rintro j k _ c U j0 j1 hk ⟨rfl, rfl, rfl, hj⟩
    have hcl := cnt_le (n := j.toNat) (P := sinP (W g) (V 305))
    have cs := cnt_s (P := sinP (W g) (V 305)) j0
    have es := esin j j0 j1
    have e4 : j < U g 4 0 := by rw [eU]; exact j1
    refine WW_se (WW_if (PE_cz (PE_cI (PE_aCR (PE_lR rfl) (PE_aCI (PE_lI rfl) PE_a0)) hn (pc_248 hN j0 e4) (by omega))) (fun hb => ?_) (fun hb => WW_sk (SQ_n ?_)))
    · rw [es] at hb
      have hz : sinR (W g) (V 305) j = 0 := of_decide_eq_true hb
      have hs : ¬ sinP (W g) (V 305) j = true := by
        unfold sinP
        simp [hz]
      rw [if_neg hs] at cs
      refine WW_cn (SQ_s (LQ_c ⟨rfl, ?_, rfl, rfl, fun p p0 p1 hp => ?_⟩))
      · rw [cs, Int.add_zero]
        rfl
      · by_cases e : p = j
        · rw [e] at hp; exact absurd hp hs
        · exact hj p p0 (by omega) hp
    · rw [es] at hb
      have hz : ¬ sinR (W g) (V 305) j = 0 := of_decide_eq_false hb
      have hge : 0 ≤ sinR (W g) (V 305) j := (cnt_le (n := (W g 0 0).toNat) (P := fun d => isSh (runF (W g) (nS (V 305))) d j)).1
      have hs : sinP (W g) (V 305) j = true := decide_eq_true (by omega)
      rw [if_pos hs] at cs
      refine WW_se ?_
      by_cases he : cnt j.toNat (sinP (W g) (V 305)) = i
      · refine WW_if (PE_cm (PE_lI rfl) (PE_lI rfl)) (fun _ => WW_rt (PE_lI rfl) (SQ_s (LQ_r ⟨_, rfl, rfl, ?_⟩))) (fun hb => absurd he (of_decide_eq_false hb))
        have hl := ledF_at (i := i) (n := (W g 4 0).toNat) j0 (by omega) hs he
        have := (hq U (hme.tr hU) (by rw [u0 1 (by omega), w1]) (by rw [u0 2 (by omega), w2])).1 (by rw [hl]; exact j0) (by rw [u0 0 (by omega), w0])
        rwa [hl] at this
      · refine WW_if (PE_cm (PE_lI rfl) (PE_lI rfl)) (fun hb => absurd (of_decide_eq_true hb) he) (fun _ => WW_sk (SQ_n (WW_in rfl (LQ_n ⟨rfl, ?_, rfl, rfl, fun p p0 p1 hp => ?_⟩))))
        · show [some (vR (some 305)), some (vI i), some (vI (zAdd (cnt j.toNat (sinP (W g) (V 305))) 1)), some (vI (j + 1))] = _
          rw [zAdd_id (by omega) (by omega), cs]
        · by_cases e : p = j
          · rw [e]; exact he
          · exact hj p p0 (by omega) hp
  · rintro _ c U ⟨rfl, rfl, rfl, hj⟩
    have hl : ledF (sinP (W g) (V 305)) i (W g 4 0).toNat = -1 := ledF_no fun p p0 p1 hp => hj p p0 (by omega) hp
    refine SQ_n (WW_se (WW_pf rfl (PE_lR rfl) k_305 PE_kI (SQ_n (WW_rt PE_kI ⟨_, rfl, rfl, ?_⟩))))
    exact (hq (sM U 305 0 (fun _ => 1)) (ME_sM (hme.tr hU) (by omega)) (by rw [sM_k (by decide), u0 1 (by omega), w1]) (by rw [sM_k (by decide), u0 2 (by omega), w2])).2 hl (by rw [sM_at])
theorem qz_299 {i : Int} (hz : V 305 3 0 = -1) (hq : R (some (vI 0)) c (sM (sM V 305 0 (fun _ => 0)) 305 0 (fun _ => 1))) : CC 9 299 [vR (some 305), vI i] c V R := by
  have z1 : sM V 305 0 (fun _ => 0) 305 3 0 = -1 := by rw [sM_k (by decide)]; exact hz
  refine CC_of mt_299 gb_299 (by decide) (by decide) (rcb_o k_305) (Nat.le_of_ble_eq_true rfl) fun n dd hn hd => ?_
  show WW (bX13_led (gOr n dd)) n [some (vR (some (305))), some (vI (i)), none, none] _ _ _
  unfold bX13_led
  have hn0 : 1000000000 ≤ n := hn
  refine WW_se (WW_pf rfl (PE_lR rfl) k_305 PE_kI (SQ_n ?_))
  refine WW_se (WW_st PE_kI (SQ_n (WW_se (WW_if (PE_not (PE_cn (PE_f0 rfl (PE_lR rfl) k_305 z1))) (fun q => by cases q) (fun _ => WW_sk (SQ_n ?_))))))
  refine WW_se (WW_se (WW_st PE_kI (SQ_n ?_)))
  refine WW_wh 900000000 (fun r L1 c1 V1 => L1 = [some (vR (some 305)), some (vI i), some (vI 0), some (vI 0)] ∧ c1 = c ∧ V1 = sM V 305 0 (fun _ => 0)) ?_ 0 _ _ _ _ (by omega) ⟨rfl, rfl, rfl⟩
  rintro r k _ c _ hk ⟨rfl, rfl, rfl⟩
  refine EE_pe (PE_and (b' := false) (PE_not (PE_cn (PE_f0 rfl (PE_lR rfl) k_305 z1))) (fun q => by cases q)) ⟨(fun q => by cases q), fun _ => ?_⟩
  refine SQ_n (WW_se (WW_pf rfl (PE_lR rfl) k_305 PE_kI (SQ_n (WW_rt PE_kI ⟨_, rfl, rfl, hq⟩))))
theorem pc_171 : PC 1 171 [vR (some 305)] c V (some (vI (V 305 0 0))) := by
  refine PC_of ?_
  refine CC_of mt_171 gb_171 (by decide) (by decide) (rcb_o k_305) (Nat.le_of_ble_eq_true rfl) fun n dd hn hd => ?_
  show WW (bX13_thrown (gOr n dd)) n [some (vR (some (305)))] _ _ _
  unfold bX13_thrown
  have hn0 : 1000000000 ≤ n := hn
  (repeat' (first | with_reducible apply SQ_n | with_reducible apply SQ_s | with_reducible apply WW_se | with_reducible apply WW_sk | ((with_reducible apply EE_pe); focus ((repeat' (first | with_reducible exact PE_kI | ((with_reducible apply PE_lI); rfl) | ((with_reducible apply PE_lR); rfl) | ((with_reducible apply PE_aF); rfl) | ((with_reducible apply PE_fI); rfl) | with_reducible apply PE_o2 | ((with_reducible apply PE_fC); rfl) | ((with_reducible apply PE_fP); rfl) | ((with_reducible apply PE_fA); rfl) | with_reducible apply PE_cm | with_reducible apply PE_cz | with_reducible apply PE_not | with_reducible apply PE_cn | with_reducible apply PE_aCI | with_reducible apply PE_aCR | with_reducible exact PE_a0 | with_reducible exact PE_kB | with_reducible apply PE_and | with_reducible apply PE_or | with_reducible apply PE_ite | with_reducible apply PE_aCB | with_reducible apply PE_aCL | with_reducible apply PE_aCS | with_reducible apply PE_cI | with_reducible apply PE_cB | with_reducible apply PE_q12 | with_reducible apply PE_q13 | with_reducible apply PE_q14 | with_reducible apply PE_aT | with_reducible apply PE_o2p | with_reducible apply PE_o1 | with_reducible apply PE_bI | with_reducible apply PE_cR | with_reducible apply PE_cL | ((with_reducible apply PE_lB); rfl) | ((with_reducible apply PE_lS); rfl) | ((with_reducible apply PE_lL); rfl) | with_reducible exact PE_kS | ((with_reducible apply PE_fL); rfl) | ((with_reducible apply PE_fB); rfl) | with_reducible apply PE_aBo | ((with_reducible show (_ = true → _)); intro hb; try simp only [cmB, decide_eq_true_eq, decide_eq_false_iff_not, Bool.not_eq_true', Bool.not_eq_false', Bool.and_eq_true, Bool.and_eq_false_iff, Bool.or_eq_true, Bool.or_eq_false_iff, Bool.not_true, Bool.not_false, reduceCtorEq, Int.not_lt, Int.not_le, Classical.not_not, sM_at, sM_o, sM_k, sO_at, sO_ne, sF_at, sF_ne, gUz_at, ne_eq, Nat.reduceEqDiff, not_false_eq_true, not_true_eq_false, kindF_sM, habitF_sM, Nat.reduceAdd, Option.isNone_some, Option.isNone_none, false_and, and_false, false_or, or_false, true_and, and_true] at hb; try (first | contradiction | (exfalso; omega))) | ((with_reducible show (_ = false → _)); intro hb; try simp only [cmB, decide_eq_true_eq, decide_eq_false_iff_not, Bool.not_eq_true', Bool.not_eq_false', Bool.and_eq_true, Bool.and_eq_false_iff, Bool.or_eq_true, Bool.or_eq_false_iff, Bool.not_true, Bool.not_false, reduceCtorEq, Int.not_lt, Int.not_le, Classical.not_not, sM_at, sM_o, sM_k, sO_at, sO_ne, sF_at, sF_ne, gUz_at, ne_eq, Nat.reduceEqDiff, not_false_eq_true, not_true_eq_false, kindF_sM, habitF_sM, Nat.reduceAdd, Option.isNone_some, Option.isNone_none, false_and, and_false, false_or, or_false, true_and, and_true] at hb; try (first | contradiction | (exfalso; omega))) | ((with_reducible apply as_p); with_reducible assumption) | with_reducible rfl | (first | exact k_305 | exact k_0 | exact k_84 | exact k_85 | exact k_92 | exact k_99 | exact k_235 | exact k_236 | exact k_257 | exact k_258 | exact k_279 | exact k_280 | exact k_294 | exact k_299 | exact k_302) | decide | contradiction | omega | (simp only [sM_at, sM_o, sM_k, sO_at, sO_ne, sF_at, sF_ne, gUz_at, ne_eq, Nat.reduceEqDiff, not_false_eq_true, not_true_eq_false, kindF_sM, habitF_sM, Nat.reduceAdd]; assumption) | (simp only [sM_at, sM_o, sM_k, sO_at, sO_ne, sF_at, sF_ne, gUz_at, ne_eq, Nat.reduceEqDiff, not_false_eq_true, not_true_eq_false, kindF_sM, habitF_sM, Nat.reduceAdd]; omega) | (simp only [sM_at, sM_o, sM_k, sO_at, sO_ne, sF_at, sF_ne, gUz_at, ne_eq, Nat.reduceEqDiff, not_false_eq_true, not_true_eq_false, kindF_sM, habitF_sM, Nat.reduceAdd] at *; omega) | (simp (disch := omega) only [zAdd_id, zSub_id, zMul_id, sM_at, sM_o, sM_k, sO_at, sO_ne, sF_at, sF_ne, gUz_at, ne_eq, Nat.reduceEqDiff, not_false_eq_true, not_true_eq_false, kindF_sM, habitF_sM, Nat.reduceAdd]; omega))); done)) | with_reducible apply WW_stE | with_reducible apply WW_ifE | with_reducible apply WW_rtE | with_reducible apply WW_rtV | ((with_reducible apply WW_pfE); rfl) | ((with_reducible apply WW_asFE); rfl) | ((with_reducible apply WW_pu); rfl) | ((with_reducible apply WW_au0); rfl) | with_reducible apply WW_cVx | with_reducible apply WW_rtBE | with_reducible apply WW_stBE | with_reducible apply WW_stRE | with_reducible apply WW_stLE | with_reducible apply WW_dp | with_reducible apply WW_rtLE | with_reducible apply WW_rtRE | with_reducible apply WW_cn | with_reducible apply WW_br | with_reducible apply LQ_n | with_reducible apply LQ_c | with_reducible apply LQ_b | with_reducible apply LQ_r | ((with_reducible apply WW_pfBE); rfl) | ((with_reducible apply WW_pfP); rfl) | ((with_reducible apply WW_pfL); rfl) | ((with_reducible apply WW_asB); rfl) | ((with_reducible apply WW_in); rfl) | with_reducible apply EE_cIx | with_reducible apply EE_cBx | with_reducible apply EE_ite | with_reducible apply EE_or | with_reducible apply EE_and | with_reducible apply EE_not | with_reducible apply EE_o2 | with_reducible apply EE_cm | with_reducible apply EE_cz | with_reducible apply EE_cR | with_reducible apply EE_cL | with_reducible apply EE_o2p | with_reducible apply ex_I | with_reducible apply ex_B | with_reducible apply ex_V | with_reducible apply ex_R | with_reducible apply And.intro | (refine ⟨_, rfl, ?_⟩) | with_reducible exact rtb_B | ((with_reducible show gRtB _ _ = true); rfl) | ((with_reducible show some _ = some _); rfl) | with_reducible apply mG_sM | with_reducible apply mG_sO | with_reducible apply EN_sM | with_reducible apply EN_k | (first | with_reducible exact K01_stand | with_reducible exact K01_lift | with_reducible exact K01_pick | with_reducible exact K01_buy | with_reducible exact K01_exch | with_reducible exact K01_in | with_reducible exact K01_rew | with_reducible exact K01_come | with_reducible exact K01_ren | with_reducible exact K01_mv | with_reducible exact K01_mva | with_reducible exact K01_morn | with_reducible exact K01_ev | with_reducible exact K01_even | with_reducible exact K01_go | with_reducible exact K01_night) | with_reducible apply cG_sM | ((with_reducible apply EE_fI); rfl) | ((with_reducible apply EE_fC); rfl) | ((with_reducible apply EE_aF); rfl) | with_reducible apply EE_aCR | with_reducible apply EE_aCI | with_reducible apply ex_P | with_reducible exact Nat.le_refl _ | with_reducible apply TDY_15 | with_reducible apply BQ_r | ((with_reducible show (_ : gLo) = _); rfl) | ((with_reducible show _ = some (some _)); rfl) | with_reducible exact PE_kI | ((with_reducible apply PE_lI); rfl) | ((with_reducible apply PE_lR); rfl) | ((with_reducible apply PE_aF); rfl) | ((with_reducible apply PE_fI); rfl) | with_reducible apply PE_o2 | ((with_reducible apply PE_fC); rfl) | ((with_reducible apply PE_fP); rfl) | ((with_reducible apply PE_fA); rfl) | with_reducible apply PE_cm | with_reducible apply PE_cz | with_reducible apply PE_not | with_reducible apply PE_cn | with_reducible apply PE_aCI | with_reducible apply PE_aCR | with_reducible exact PE_a0 | with_reducible exact PE_kB | with_reducible apply PE_and | with_reducible apply PE_or | with_reducible apply PE_ite | with_reducible apply PE_aCB | with_reducible apply PE_aCL | with_reducible apply PE_aCS | with_reducible apply PE_cI | with_reducible apply PE_cB | with_reducible apply PE_q12 | with_reducible apply PE_q13 | with_reducible apply PE_q14 | with_reducible apply PE_aT | with_reducible apply PE_o2p | with_reducible apply PE_o1 | with_reducible apply PE_bI | with_reducible apply PE_cR | with_reducible apply PE_cL | ((with_reducible apply PE_lB); rfl) | ((with_reducible apply PE_lS); rfl) | ((with_reducible apply PE_lL); rfl) | with_reducible exact PE_kS | ((with_reducible apply PE_fL); rfl) | ((with_reducible apply PE_fB); rfl) | with_reducible apply PE_aBo | ((with_reducible show (_ = true → _)); intro hb; try simp only [cmB, decide_eq_true_eq, decide_eq_false_iff_not, Bool.not_eq_true', Bool.not_eq_false', Bool.and_eq_true, Bool.and_eq_false_iff, Bool.or_eq_true, Bool.or_eq_false_iff, Bool.not_true, Bool.not_false, reduceCtorEq, Int.not_lt, Int.not_le, Classical.not_not, sM_at, sM_o, sM_k, sO_at, sO_ne, sF_at, sF_ne, gUz_at, ne_eq, Nat.reduceEqDiff, not_false_eq_true, not_true_eq_false, kindF_sM, habitF_sM, Nat.reduceAdd, Option.isNone_some, Option.isNone_none, false_and, and_false, false_or, or_false, true_and, and_true] at hb; try (first | contradiction | (exfalso; omega))) | ((with_reducible show (_ = false → _)); intro hb; try simp only [cmB, decide_eq_true_eq, decide_eq_false_iff_not, Bool.not_eq_true', Bool.not_eq_false', Bool.and_eq_true, Bool.and_eq_false_iff, Bool.or_eq_true, Bool.or_eq_false_iff, Bool.not_true, Bool.not_false, reduceCtorEq, Int.not_lt, Int.not_le, Classical.not_not, sM_at, sM_o, sM_k, sO_at, sO_ne, sF_at, sF_ne, gUz_at, ne_eq, Nat.reduceEqDiff, not_false_eq_true, not_true_eq_false, kindF_sM, habitF_sM, Nat.reduceAdd, Option.isNone_some, Option.isNone_none, false_and, and_false, false_or, or_false, true_and, and_true] at hb; try (first | contradiction | (exfalso; omega))) | ((with_reducible apply as_p); with_reducible assumption) | with_reducible rfl | (first | exact k_305 | exact k_0 | exact k_84 | exact k_85 | exact k_92 | exact k_99 | exact k_235 | exact k_236 | exact k_257 | exact k_258 | exact k_279 | exact k_280 | exact k_294 | exact k_299 | exact k_302) | decide | contradiction | omega | (simp only [sM_at, sM_o, sM_k, sO_at, sO_ne, sF_at, sF_ne, gUz_at, ne_eq, Nat.reduceEqDiff, not_false_eq_true, not_true_eq_false, kindF_sM, habitF_sM, Nat.reduceAdd]; assumption) | (simp only [sM_at, sM_o, sM_k, sO_at, sO_ne, sF_at, sF_ne, gUz_at, ne_eq, Nat.reduceEqDiff, not_false_eq_true, not_true_eq_false, kindF_sM, habitF_sM, Nat.reduceAdd]; omega) | (simp only [sM_at, sM_o, sM_k, sO_at, sO_ne, sF_at, sF_ne, gUz_at, ne_eq, Nat.reduceEqDiff, not_false_eq_true, not_true_eq_false, kindF_sM, habitF_sM, Nat.reduceAdd] at *; omega) | (simp (disch := omega) only [zAdd_id, zSub_id, zMul_id, sM_at, sM_o, sM_k, sO_at, sO_ne, sF_at, sF_ne, gUz_at, ne_eq, Nat.reduceEqDiff, not_false_eq_true, not_true_eq_false, kindF_sM, habitF_sM, Nat.reduceAdd]; omega)))
end LM
