/-! THE REFERENCE'S ACTS: all is kept -/
def shF (P : Int → Int) (j : Int) : Int → Int := fun i => if 0 ≤ i ∧ i < j then P (i + 59) else P i
def cpF (P v : Int → Int) (n j : Int) : Int → Int := fun i => if 59 * n ≤ i ∧ i < 59 * n + j then v (i - 59 * n) else P i
section MK
variable {c : cT} {V : Mem} {R : Option gAV → cT → Mem → Prop}
theorem keep_b {n : Nat} {L : gLo} {W : Mem} {m : Int} {Q : gEx → gLo → cT → Mem → Prop} (hn : 1000000000 ≤ n) (h0 : 0 ≤ m) (h1 : m < 16) (hm : W 305 21 0 = m) (hL : L = [some (vR (some 305)), some (vI 0)]) (hq : Q none [some (vR (some 305)), some (vI 59)] c (sM W 305 19 (cpF (W 305 19) (W 305 18) m 59))) : WW (whS (cmC .lt (lI 1) (kI 59)) (asI 0 (fR 13 19 (lR 0)) (o2 zAdd (o2 zMul (kI 59) (fI 13 21 (lR 0))) (lI 1)) (aI 0 (fR 13 18 (lR 0)) (lI 1))) (inS 1 1)) n L c W Q := by
  have ff : ∀ f f' : Int → Int, sM (sM W 305 19 f) 305 19 f' = sM W 305 19 f' := fun f f' => sM_sM
  refine WW_for 900000000 0 59 (fun j L1 c1 V1 => L1 = [some (vR (some 305)), some (vI j)] ∧ c1 = c ∧ V1 = sM W 305 19 (cpF (W 305 19) (W 305 18) m j)) (by omega) (by omega) (by omega) (by omega) ⟨hL, rfl, ?_⟩ ?_ ?_ ?_
  · funext b k
    by_cases hb : b = 305 ∧ k = 19
    · obtain ⟨rfl, rfl⟩ := hb
      rw [sM_at]
      funext i
      unfold cpF
      rw [if_neg (by omega)]
    · rw [sM_ne (by omega)]
  · rintro j _ _ _ j0 j1 ⟨rfl, rfl, rfl⟩
    exact ⟨rfl, PE_kI⟩
  · rintro j k _ c _ j0 j1 hk ⟨rfl, rfl, rfl⟩
    have e21 : sM W 305 19 (cpF (W 305 19) (W 305 18) m j) 305 21 0 = m := by rw [sM_k (by decide)]; exact hm
    have e18 : sM W 305 19 (cpF (W 305 19) (W 305 18) m j) 305 18 = W 305 18 := sM_k (by decide)
    have ez : zAdd (zMul 59 m) j = 59 * m + j := by rw [zMul_id (by omega) (by omega), zAdd_id (by omega) (by omega)]
    refine WW_asF (ty := 0) (z := W 305 18 j) rfl (by decide) (PE_lR rfl) k_305 (PE_o2 (PE_o2 PE_kI (PE_fI rfl (PE_lR rfl) k_305)) (PE_lI rfl)) (by rw [e21, ez]; omega) (by rw [e21, ez]; omega) (PE_aF rfl (by decide) (PE_lR rfl) k_305 (PE_lI rfl) j0 (by omega)) (by rw [e18]; rfl) (LQ_n ⟨rfl, rfl, rfl, ?_⟩)
    rw [e21, ez, ff, sM_at]
    congr 1
    funext i
    unfold gUz cpF
    by_cases e1 : i = 59 * m + j
    · rw [if_pos e1, if_pos (by omega)]
      congr 1
      omega
    · rw [if_neg e1]
      by_cases e2 : 59 * m ≤ i ∧ i < 59 * m + j
      · rw [if_pos e2, if_pos (by omega)]
      · rw [if_neg e2, if_neg (by omega)]
  · rintro _ _ _ ⟨rfl, rfl, rfl⟩
    exact hq
theorem keep_a {n : Nat} {L : gLo} {W : Mem} {Q : gEx → gLo → cT → Mem → Prop} (hn : 1000000000 ≤ n) (hL : L = [some (vR (some 305)), some (vI 0)]) (hq : Q none [some (vR (some 305)), some (vI 885)] c (sM W 305 19 (shF (W 305 19) 885))) : WW (whS (cmC .lt (lI 1) (kI 885)) (asI 0 (fR 13 19 (lR 0)) (lI 1) (aI 0 (fR 13 19 (lR 0)) (o2 zAdd (lI 1) (kI 59)))) (inS 1 1)) n L c W Q := by
  have ff : ∀ f f' : Int → Int, sM (sM W 305 19 f) 305 19 f' = sM W 305 19 f' := fun f f' => sM_sM
  refine WW_for 900000000 0 885 (fun j L1 c1 V1 => L1 = [some (vR (some 305)), some (vI j)] ∧ c1 = c ∧ V1 = sM W 305 19 (shF (W 305 19) j)) (by omega) (by omega) (by omega) (by omega) ⟨hL, rfl, ?_⟩ ?_ ?_ ?_
  · funext b k
    by_cases hb : b = 305 ∧ k = 19
    · obtain ⟨rfl, rfl⟩ := hb
      rw [sM_at]
      funext i
      unfold shF
      rw [if_neg (by omega)]
    · rw [sM_ne (by omega)]
  · rintro j _ _ _ j0 j1 ⟨rfl, rfl, rfl⟩
    exact ⟨rfl, PE_kI⟩
  · rintro j k _ c _ j0 j1 hk ⟨rfl, rfl, rfl⟩
    have ez : zAdd j 59 = j + 59 := zAdd_id (by omega) (by omega)
    have e19 : sM W 305 19 (shF (W 305 19) j) 305 19 (zAdd j 59) = W 305 19 (j + 59) := by
      rw [sM_at, ez]
      unfold shF
      rw [if_neg (by omega)]
    refine WW_asF (ty := 0) (z := W 305 19 (j + 59)) rfl (by decide) (PE_lR rfl) k_305 (PE_lI rfl) j0 (by omega) (PE_aF rfl (by decide) (PE_lR rfl) k_305 (PE_o2 (PE_lI rfl) PE_kI) (by rw [ez]; omega) (by rw [ez]; omega)) (by rw [e19]; rfl) (LQ_n ⟨rfl, rfl, rfl, ?_⟩)
    rw [ff, sM_at]
    congr 1
    funext i
    unfold gUz shF
    by_cases e1 : i = j
    · rw [if_pos e1, if_pos (by omega), e1]
    · rw [if_neg e1]
      by_cases e2 : 0 ≤ i ∧ i < j
      · rw [if_pos e2, if_pos (by omega)]
      · rw [if_neg e2, if_neg (by omega)]
  · rintro _ _ _ ⟨rfl, rfl, rfl⟩
    exact hq
/-- the fields behind keeping all -/
def keepF (S : oV) : oV := if S 21 0 = 16 then s1 (sF S 19 (cpF (shF (S 19) 885) (S 18) 15 59)) 21 16 else s1 (sF S 19 (cpF (S 19) (S 18) (S 21 0) 59)) 21 (S 21 0 + 1)
end MK
