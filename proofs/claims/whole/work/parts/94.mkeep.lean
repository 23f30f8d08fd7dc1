/-! THE REFERENCE'S ACTS: all is kept -/
def shF (P : Int → Int) (j : Int) : Int → Int := fun i => if 0 ≤ i ∧ i < j then P (i + 59) else P i
def cpF (P v : Int → Int) (n j : Int) : Int → Int := fun i => if 59 * n ≤ i ∧ i < 59 * n + j then v (i - 59 * n) else P i
section MK
variable {c : cT} {V : Mem} {R : Option gAV → cT → Mem → Prop}
theorem keep_b {n : Nat} {L : gLo} {W : Mem} {m : Int} {Q : gEx → gLo → cT → Mem → Prop} (hn : 1000000000 ≤ n) (h0 : 0 ≤ m) (h1 : m < 16) (hm : W 305 21 0 = m) (hL : L = [some (vR (some 305)), some (vI 0)]) (hq : Q none [some (vR (some 305)), some (vI 59)] c (sM W 305 19 (cpF (W 305 19) (W 305 18) m 59))) : WW (whS (cmC .lt (lI 1) (kI 59)) (asI 0 (fR 13 19 (lR 0)) (o2 zAdd (o2 zMul (kI 59) (fI 13 21 (lR 0))) (lI 1)) (aI 0 (fR 13 18 (lR 0)) (lI 1))) (inS 1 1)) n L c W Q := by
  have ff : ∀ f f' : Int → Int, sM (sM W 305 19 f) 305 19 f' = sM W 305 19 f' := fun f f' => sM_sM
  refine WW_for 900000000 0 59 (fun j L1 c1 V1 => L1 = [some (vR (some 305)), some (vI j)] ∧ c1 = c ∧ V1 = sM W 305 19 (cpF (W 305 19) (W 305 18) m j)) (by omega) (by omega) (by omega) (by omega) ⟨hL, rfl, ?_⟩ ?_ ?_ ?_
  · funext b k
    by_cases hb : b = 305 ∧ k = 19
    · obtain ⟨rfl, rfl⟩ := hb
      rw [sM_at]
      funext i
      unfold cpF
      rw [if_neg (by omega)]
    · rw [sM_ne (by omega)]
  · rintro j _ _ _ j0 j1 ⟨rfl, rfl, rfl⟩
    exact ⟨rfl, PE_kI⟩
  · rintro j k _ c _ j0 j1 hk ⟨rfl, rfl, rfl⟩
    have e21 : sM W 305 19 (cpF (W 305 19) (W 305 18) m j) 305 21 0 = m := by rw [sM_k (by decide)]; exact hm
    have e18 : sM W 305 19 (cpF (W 305 19) (W 305 18) m j) 305 18 = W 305 18 := sM_k (by decide)
    have ez : zAdd (zMul 59 m) j = 59 * m + j := by rw [zMul_id (by omega) (by omega), zAdd_id (by omega) (by omega)]
    refine WW_asF (ty := 0) (z := W 305 18 j) rfl (by decide) (PE_lR rfl) k_305 (PE_o2 (PE_o2 PE_kI (PE_fI rfl (PE_lR rfl) k_305)) (PE_lI rfl)) (by rw [e21, ez]; omega) (by rw [e21, ez]; omega) (PE_aF rfl (by decide) (PE_lR rfl) k_305 (PE_lI rfl) j0 (by omega)) (by rw [e18]; rfl) (LQ_n ⟨rfl, rfl, rfl, ?_⟩)
    rw [e21, ez, ff, sM_at]
    congr 1
    funext i
    unfold gUz cpF
    by_cases e1 : i = 59 * m + j
    · rw [if_pos e1, if_pos (by omega)]
      congr 1
      omega
    · rw [if_neg e1]
      by_cases e2 : 59 * m ≤ i ∧ i < 59 * m + j
      · rw [if_pos e2, if_pos (by omega)]
      · rw [if_neg e2, if_neg (by omega)]
  · rintro _ _ _ ⟨rfl, rfl, rfl⟩
    exact hq
theorem keep_a {n : Nat} {L : gLo} {W : Mem} {Q : gEx → gLo → cT → Mem → Prop} (hn : 1000000000 ≤ n) (hL : L = [some (vR (some 305)), some (vI 0)]) (hq : Q none [some (vR (some 305)), some (vI 885)] c (sM W 305 19 (shF (W 305 19) 885))) : WW (whS (cmC .lt (lI 1) (kI 885)) (asI 0 (fR 13 19 (lR 0)) (lI 1) (aI 0 (fR 13 19 (lR 0)) (o2 zAdd (lI 1) (kI 59)))) (inS 1 1)) n L c W Q := by
  have ff : ∀ f f' : Int → Int, sM (sM W 305 19 f) 305 19 f' = sM W 305 19 f' := fun f f' => sM_sM
  refine WW_for 900000000 0 885 (fun j L1 c1 V1 => L1 = [some (vR (some 305)), some (vI j)] ∧ c1 = c ∧ V1 = sM W 305 19 (shF (W 305 19) j)) (by omega) (by omega) (by omega) (by omega) ⟨hL, rfl, ?_⟩ ?_ ?_ ?_
  · funext b k
    by_cases hb : b = 305 ∧ k = 19
    · obtain ⟨rfl, rfl⟩ := hb
      rw [sM_at]
      funext i
      unfold shF
      rw [if_neg (by omega)]
    · rw [sM_ne (by omega)]
  · rintro j _ _ _ j0 j1 ⟨rfl, rfl, rfl⟩
    exact ⟨rfl, PE_kI⟩
  · rintro j k _ c _ j0 j1 hk ⟨rfl, rfl, rfl⟩
    have ez : zAdd j 59 = j + 59 := zAdd_id (by omega) (by omega)
    have e19 : sM W 305 19 (shF (W 305 19) j) 305 19 (zAdd j 59) = W 305 19 (j + 59) := by
      rw [sM_at, ez]
      unfold shF
      rw [if_neg (by omega)]
    refine WW_asF (ty := 0) (z := W 305 19 (j + 59)) rfl (by decide) (PE_lR rfl) k_305 (PE_lI rfl) j0 (by omega) (PE_aF rfl (by decide) (PE_lR rfl) k_305 (PE_o2 (PE_lI rfl) PE_kI) (by rw [ez]; omega) (by rw [ez]; omega)) (by rw [e19]; rfl) (LQ_n ⟨rfl, rfl, rfl, ?_⟩)
    rw [ff, sM_at]
    congr 1
    funext i
    unfold gUz shF
    by_cases e1 : i = j
    · rw [if_pos e1, if_pos (by omega), e1]
    · rw [if_neg e1]
      by_cases e2 : 0 ≤ i ∧ i < j
      · rw [if_pos e2, if_pos (by omega)]
      · rw [if_neg e2, if_neg (by omega)]
  · rintro _ _ _ ⟨rfl, rfl, rfl⟩
    exact hq
/-- the fields behind keeping all -/
def keepF (S : oV) : oV := if S 21 0 = 16 then s1 (sF S 19 (cpF (shF (S 19) 885) (S 18) 15 59)) 21 16 else s1 (sF S 19 (cpF (S 19) (S 18) (S 21 0) 59)) 21 (S 21 0 + 1)
theorem cc_286 (h0 : 0 ≤ V 305 21 0) (h1 : V 305 21 0 ≤ 16) (hq : R none c (sO V 305 (keepF (V 305)))) : CC 1 286 [vR (some 305)] c V R := by
  refine CC_of mt_286 gb_286 (by decide) (by decide) (rcb_o k_305) (Nat.le_of_ble_eq_true rfl) fun n dd hn hd => ?_
  show WW (bX13_keepsAll (gOr n dd)) n [some (vR (some (305))), none] _ _ _
  unfold bX13_keepsAll
  have hn0 : 1000000000 ≤ n := hn
  by_cases h16 : V 305 21 0 = 16
  · have hq' : R none c (sM (sM (sM (sM V 305 19 (shF (V 305 19) 885)) 305 21 (fun _ => 15)) 305 19 (cpF (shF (V 305 19) 885) (V 305 18) 15 59)) 305 21 (fun _ => 16)) := by
      rw [keepF, if_pos h16] at hq
      refine cast (congrArg (R none c) ?_) hq
      funext b k
      by_cases hb : b = 305
      · subst hb
        simp only [sM, sO_sO, sO_at, s1, sF]
        by_cases k1 : k = 21 <;> by_cases k2 : k = 19 <;> simp [k1, k2]
      · rw [sO_ne hb, sM_o hb, sM_o hb, sM_o hb, sM_o hb]
    refine WW_se (WW_se (WW_if (PE_cm (PE_fI rfl (PE_lR rfl) k_305) PE_kI) (fun _ => ?_) (fun hb => ?_)))
    · refine WW_se (WW_se (WW_st PE_kI (SQ_n (keep_a hn0 rfl (SQ_n (WW_pu rfl (PE_lR rfl) k_305 PE_kI (SQ_n ?_)))))))
      have e1 : zSub (sM V 305 19 (shF (V 305 19) 885) 305 21 0) 1 = 15 := by rw [sM_k (by decide), h16]; rfl
      rw [e1]
      refine WW_se (WW_se (WW_st PE_kI (SQ_n (keep_b (m := 15) hn0 (by omega) (by omega) (by rw [sM_at]) rfl (SQ_n (WW_pu rfl (PE_lR rfl) k_305 PE_kI (SQ_n (WW_rtV ⟨_, rfl, rfl, ?_⟩))))))))
      have e2 : sM (sM V 305 19 (shF (V 305 19) 885)) 305 21 (fun _ => 15) 305 19 = shF (V 305 19) 885 := by rw [sM_k (by decide), sM_at]
      have e3 : sM (sM V 305 19 (shF (V 305 19) 885)) 305 21 (fun _ => 15) 305 18 = V 305 18 := by rw [sM_k (by decide), sM_k (by decide)]
      have e4 : ∀ f, zAdd (sM (sM (sM V 305 19 (shF (V 305 19) 885)) 305 21 (fun _ => 15)) 305 19 f 305 21 0) 1 = 16 := fun f => by rw [sM_k (by decide), sM_at]; rfl
      rw [e2, e3, e4]
      exact hq'
    · exact absurd (of_decide_eq_false hb) (fun z => z h16)
  · have hq' : R none c (sM (sM V 305 19 (cpF (V 305 19) (V 305 18) (V 305 21 0) 59)) 305 21 (fun _ => V 305 21 0 + 1)) := by
      rw [keepF, if_neg h16] at hq
      refine cast (congrArg (R none c) ?_) hq
      simp only [sM, sO_sO, sO_at, s1]
    refine WW_se (WW_se (WW_if (PE_cm (PE_fI rfl (PE_lR rfl) k_305) PE_kI) (fun hb => ?_) (fun _ => WW_sk (SQ_n ?_))))
    · exact absurd (of_decide_eq_true hb) h16
    · refine WW_se (WW_se (WW_st PE_kI (SQ_n (keep_b (m := V 305 21 0) hn0 h0 (by omega) rfl rfl (SQ_n (WW_pu rfl (PE_lR rfl) k_305 PE_kI (SQ_n (WW_rtV ⟨_, rfl, rfl, ?_⟩))))))))
      have e4 : ∀ f, zAdd (sM V 305 19 f 305 21 0) 1 = V 305 21 0 + 1 := fun f => by rw [sM_k (by decide), zAdd_id (by omega) (by omega)]
      rw [e4]
      exact hq'
end MK
