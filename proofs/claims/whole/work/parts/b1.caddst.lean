/-! THE CLASS'S READER: a stay into the draft -/
theorem or7_dec : ∀ b0 b1 b2 b3 b4 b5 b6 : Bool, ∀ k ∈ List.range 7, zOr (bset 7 (fun p => [b0, b1, b2, b3, b4, b5, b6].getD p.toNat false)) (zShl 1 (k : Int)) = bset 7 (fun p => [b0, b1, b2, b3, b4, b5, b6].getD p.toNat false || decide (p = (k : Int))) := by decide +kernel
theorem or7 {P : Int → Bool} {k : Int} (hk0 : 0 ≤ k) (hk : k < 7) : zOr (bset 7 P) (zShl 1 k) = bset 7 (fun p => P p || decide (p = k)) := by
  have h := or7_dec (P 0) (P 1) (P 2) (P 3) (P 4) (P 5) (P 6) k.toNat (List.mem_range.mpr (by omega))
  have e : ((k.toNat : Nat) : Int) = k := by omega
  have eP : ∀ j : Int, 0 ≤ j → j < (7 : Nat) → [P 0, P 1, P 2, P 3, P 4, P 5, P 6].getD j.toNat false = P j := fun j j0 j1 => by
    rcases (by omega : j = 0 ∨ j = 1 ∨ j = 2 ∨ j = 3 ∨ j = 4 ∨ j = 5 ∨ j = 6) with rfl | rfl | rfl | rfl | rfl | rfl | rfl <;> rfl
  rw [e] at h
  rw [bset_congr (P := fun p => [P 0, P 1, P 2, P 3, P 4, P 5, P 6].getD p.toNat false) (Q := P) eP, bset_congr (P := fun p => [P 0, P 1, P 2, P 3, P 4, P 5, P 6].getD p.toNat false || decide (p = k)) (Q := fun p => P p || decide (p = k)) (fun j j0 j1 => by rw [eP j j0 j1])] at h
  exact h
section CAS
variable {c : cT} {V : Mem} {g : Nat} {R : Option gAV → cT → Mem → Prop}
theorem cc_36 {p f l st : Int} {o : Nat} (ho : o = g + 13 + 4 * p.toNat) (hg : mcl c.1 g = some 4) (hpo : mcl c.1 o = some 8) (p0 : 0 ≤ p) (p7 : p < 7) (f0 : 0 ≤ f) (fl : f ≤ l) (l30 : l < 30) (hst : V o 9 0 = st) (st0 : 0 ≤ st) (st3 : st < 3)
    (hq : ∀ W, (∀ a, a ≠ g → a ≠ o → W a = V a) → W o 10 = gUz (V o 10) st f → W o 11 = gUz (V o 11) st l → W o 9 0 = st + 1 → (∀ j, j ≠ 9 → j ≠ 10 → j ≠ 11 → W o j = V o j) → (∀ j, j ≠ 17 → j ≠ 18 → j ≠ 19 → W g j = V g j) → (∀ d, W g 17 d = if f ≤ d ∧ d ≤ l then zOr (V g 17 d) (zShl 1 p) else V g 17 d) → W g 18 = gUz (V g 18) f (zOr (V g 18 f) (zShl 1 p)) → W g 19 = gUz (V g 19) l (zOr (V g 19 l) (zShl 1 p)) → R none c W) : CC 1 36 [vR (some g), vI p, vI f, vI l] c V R := by
  have og : o ≠ g := by omega
  refine CC_of mt_36 gb_36 (by decide) (by decide) (rcb_o hg) (Nat.le_of_ble_eq_true rfl) fun n dd hn hd => ?_
  show WW (bX4_addStay (gOr n dd)) n [some (vR (some (g))), some (vI (p)), some (vI (f)), some (vI (l)), none, none] _ _ _
  unfold bX4_addStay
  have hn0 : 1000000000 ≤ n := hn
  refine WW_se (WW_se (WW_stR (PE_q12 (PE_lR rfl) hg (PE_lI rfl) p0 p7) (SQ_n ?_)))
  rw [← ho]
  have p9 := PE_fI (ci := 8) (k := 9) (c := c) (V := V) (L := [some (vR (some g)), some (vI p), some (vI f), some (vI l), some (vR (some o)), none]) rfl (PE_lR (i := 4) rfl) hpo
  rw [hst] at p9
  refine WW_se (WW_asF (ty := 0) (z := f) rfl (by decide) (PE_lR rfl) hpo p9 st0 st3 (PE_lI rfl) rfl (SQ_n ?_))
  obtain ⟨A, hA⟩ : ∃ A, A = sM V o 10 (gUz (V o 10) st f) := ⟨_, rfl⟩
  rw [← hA]
  have A9 : A o 9 0 = st := by rw [hA, sM, sO_at, sF_ne (by decide)]; exact hst
  have p9 := PE_fI (ci := 8) (k := 9) (c := c) (V := A) (L := [some (vR (some g)), some (vI p), some (vI f), some (vI l), some (vR (some o)), none]) rfl (PE_lR (i := 4) rfl) hpo
  rw [A9] at p9
  refine WW_se (WW_asF (ty := 0) (z := l) rfl (by decide) (PE_lR rfl) hpo p9 st0 st3 (PE_lI rfl) rfl (SQ_n ?_))
  refine WW_se (WW_pu rfl (PE_lR rfl) hpo PE_kI (SQ_n ?_))
  obtain ⟨B, hB⟩ : ∃ B, B = sM (sM A o 11 (gUz (A o 11) st l)) o 9 (fun _ => zAdd (sM A o 11 (gUz (A o 11) st l) o 9 0) 1) := ⟨_, rfl⟩
  rw [← hB]
  have Bo : ∀ a, a ≠ o → B a = V a := fun a ha => by rw [hB, sM, sO_ne ha, sM, sO_ne ha, hA, sM, sO_ne ha]
  have B9 : B o 9 0 = st + 1 := by
    rw [hB, sM, sO_at, sF_at, sM, sO_at, sF_ne (by decide), A9, zAdd_id (by omega) (by omega)]
  have B10 : B o 10 = gUz (V o 10) st f := by
    rw [hB, sM, sO_at, sF_ne (by decide), sM, sO_at, sF_ne (by decide), hA, sM, sO_at, sF_at]
  have B11 : B o 11 = gUz (V o 11) st l := by
    rw [hB, sM, sO_at, sF_ne (by decide), sM, sO_at, sF_at, hA, sM, sO_at, sF_ne (by decide)]
  have Bn : ∀ j, j ≠ 9 → j ≠ 10 → j ≠ 11 → B o j = V o j := fun j j1 j2 j3 => by
    rw [hB, sM, sO_at, sF_ne j1, sM, sO_at, sF_ne j3, hA, sM, sO_at, sF_ne j2]
  clear hB hA A9 p9
  refine WW_se (WW_se (WW_st (PE_lI rfl) (SQ_n ?_)))
  refine WW_wh 900000000 (fun m L1 c1 V1 => ∃ d : Int, f ≤ d ∧ d ≤ l + 1 ∧ m = (l + 1 - d).toNat ∧ L1 = [some (vR (some g)), some (vI p), some (vI f), some (vI l), some (vR (some o)), some (vI d)] ∧ c1 = c ∧ (∀ a, a ≠ g → V1 a = B a) ∧ (∀ j, j ≠ 17 → V1 g j = V g j) ∧ ∀ i, V1 g 17 i = if f ≤ i ∧ i < d then zOr (V g 17 i) (zShl 1 p) else V g 17 i) ?_ (l + 1 - f).toNat _ _ _ _ (by omega) ⟨f, by omega, by omega, rfl, rfl, rfl, fun _ _ => rfl, fun j _ => by rw [Bo g (Ne.symm og)], fun i => by rw [if_neg (by omega), Bo g (Ne.symm og)]⟩
  rintro m k1 _ c W hk1 ⟨d, d0, d1, rfl, rfl, rfl, wa, wg, w17⟩
  have hcond := PE_cm (op := .le) (PE_lI (c := c) (V := W) (L := [some (vR (some g)), some (vI p), some (vI f), some (vI l), some (vR (some o)), some (vI d)]) (i := 5) rfl) (PE_lI (i := 3) rfl)
  refine EE_pe hcond ⟨fun hb => ?_, fun hb => ?_⟩
  · have hb : d ≤ l := of_decide_eq_true hb
    refine WW_au (ty := 0) rfl (by decide) (PE_lR rfl) hg (PE_lI rfl) (by omega) (by omega) (PE_o2 (f := zShl) PE_kI (PE_lI rfl)) rfl (LQ_n (WW_in rfl ⟨rfl, (l + 1 - (d + 1)).toNat, by omega, d + 1, by omega, by omega, rfl, ?_, rfl, fun a ha => ?_, fun j hj => ?_, fun i => ?_⟩))
    · rw [zAdd_id (by omega) (by omega)]; rfl
    · rw [sM, sO_ne ha]; exact wa a ha
    · rw [sM, sO_at, sF_ne hj]; exact wg j hj
    · rw [sM, sO_at, sF_at]
      by_cases e : i = d
      · rw [e, gUz_at, if_pos (by omega), w17, if_neg (by omega)]
      · rw [gUz_ne e, w17]
        by_cases z : f ≤ i ∧ i < d
        · rw [if_pos z, if_pos (by omega)]
        · rw [if_neg z, if_neg (by omega)]
  · have hb : ¬ d ≤ l := of_decide_eq_false hb
    have hd' : d = l + 1 := by omega
    subst hd'
    refine SQ_n (WW_se (WW_au (ty := 0) rfl (by decide) (PE_lR rfl) hg (PE_lI rfl) f0 (by omega) (PE_o2 (f := zShl) PE_kI (PE_lI rfl)) rfl (SQ_n ?_)))
    refine WW_au (ty := 0) rfl (by decide) (PE_lR rfl) hg (PE_lI rfl) (by omega) (by omega) (PE_o2 (f := zShl) PE_kI (PE_lI rfl)) rfl (SQ_n (WW_rtV ⟨_, rfl, rfl, hq _ ?_ ?_ ?_ ?_ ?_ ?_ ?_ ?_ ?_⟩))
    · intro a a1 a2
      rw [sM, sO_ne a1, sM, sO_ne a1, wa a a1, Bo a a2]
    · rw [sM, sO_ne og, sM, sO_ne og, wa o og]; exact B10
    · rw [sM, sO_ne og, sM, sO_ne og, wa o og]; exact B11
    · rw [sM, sO_ne og, sM, sO_ne og, wa o og]; exact B9
    · intro j j1 j2 j3
      rw [sM, sO_ne og, sM, sO_ne og, wa o og]; exact Bn j j1 j2 j3
    · intro j j1 j2 j3
      rw [sM, sO_at, sF_ne j3, sM, sO_at, sF_ne j2]; exact wg j j1
    · intro i
      rw [sM, sO_at, sF_ne (by decide), sM, sO_at, sF_ne (by decide), w17]
      by_cases z : f ≤ i ∧ i ≤ l
      · rw [if_pos z, if_pos (by omega)]
      · rw [if_neg z, if_neg (by omega)]
    · rw [sM, sO_at, sF_ne (by decide), sM, sO_at, sF_at, wg 18 (by decide)]
    · rw [sM, sO_at, sF_at, sM, sO_at, sF_ne (by decide), wg 19 (by decide)]
end CAS
