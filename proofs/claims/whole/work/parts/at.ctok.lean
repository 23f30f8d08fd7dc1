/-! THE CLASS'S READER: tokens -/
def FrC (S T : oV) : Prop := ∀ k : Nat, k < 2 ∨ 5 < k → T k = S k
theorem FrC.rf {S : oV} : FrC S S := fun _ _ => rfl
theorem FrC.tr {S T U : oV} (a : FrC S T) (b : FrC T U) : FrC S U := fun k h => (b k h).trans (a k h)
theorem FrC.ws {S T : oV} {k : Nat} {f : Int → Int} (h : FrC S T) (h1 : 2 ≤ k) (h2 : k ≤ 5) : FrC S (sF T k f) := fun j hj => by rw [sF_ne (by omega)]; exact h j hj
/-- the class's reader stands at a spot -/
def CT (t : Int → Int) (N : Int) (X : oV) (q : Int) : Prop := (0 ≤ q ∧ q ≤ N) ∧ (X 1 0 = N ∧ X 9 0 = 0) ∧ X 2 0 = kdC (kdF t N q) ∧ X 3 0 = stF t N q ∧ X 4 0 = nxF t N q ∧ (kdF t N q = 3 → X 5 0 = vlF t N q)
section CTK
variable {c : cT} {V : Mem} {X : oV} {L : gLo} {R : Option gAV → cT → Mem → Prop} {t : Int → Int} {N : Int}
theorem up84 {k : Nat} {f : Int → Int} : sM (sO V 84 X) 84 k f = sO V 84 (sF X k f) := by rw [sM, sO_sO, sO_at]
theorem cl_f {k p M : Nat} (hl : L[0]? = some (some (vR (some 84)))) (hk : (tab 9)[k]? = some (0, p, M)) : PE (fI 9 k (lR 0)) L c (sO V 84 X) (X k 0) := by
  have := PE_fI (c := c) (V := sO V 84 X) (L := L) hk (PE_lR hl) k_84
  rwa [sO_at] at this
theorem cl_t {e : gIE} {x : Int} (ht : TX t N (V 0 0)) (hl : L[0]? = some (some (vR (some 84)))) (he : PE e L c (sO V 84 X) x) (h0 : 0 ≤ x) (h1 : x < 1000) : PE (aI 1 (fR 9 0 (lR 0)) e) L c (sO V 84 X) (t x) := by
  have := PE_aT (c := c) (V := sO V 84 X) (L := L) (PE_lR hl) k_84 he h0 h1
  rwa [sO_ne (by decide), (ht.2 x h0 h1).1] at this
theorem cc_57 {f : Int} (hq : R (some (vB false)) c (sO V 84 (sF (sF (V 84) 9 (fun _ => f)) 10 (fun _ => V 84 3 0)))) : CC 1 57 [vR (some 84), vI f] c V R := by
  refine CC_of mt_57 gb_57 (by decide) (by decide) (rcb_o k_84) (Nat.le_of_ble_eq_true rfl) fun n dd hn hd => ?_
  show WW (bX9_fail (gOr n dd)) n [some (vR (some (84))), some (vI (f))] _ _ _
  unfold bX9_fail
  have hn0 : 1000000000 ≤ n := hn
  refine WW_eq (sO_id (a := 84)).symm ?_
  refine WW_se (WW_pf rfl (PE_lR rfl) k_84 (PE_lI rfl) (SQ_n ?_))
  rw [up84]
  refine WW_se (WW_pf rfl (PE_lR rfl) k_84 (cl_f (k := 3) rfl rfl) (SQ_n ?_))
  rw [up84, sF_ne (by decide)]
  exact WW_rtB PE_kB ⟨_, rfl, rfl, hq⟩
theorem cc_59 {lo hi k : Int} (ht : TX t N (V 0 0)) (h1 : V 84 1 0 = N) (h3 : V 84 3 0 = k) (h4 : V 84 4 0 = k) (k0 : 0 ≤ k) (kN : k ≤ N) (hq : ∀ X, (∀ j : Nat, j ≠ 4 → X j = V 84 j) → X 4 0 = enF t N lo hi k → R (some (vI (enF t N lo hi k - k))) c (sO V 84 X)) : CC 1 59 [vR (some 84), vI lo, vI hi] c V R := by
  obtain ⟨n0, n1⟩ := ht.1
  refine CC_of mt_59 gb_59 (by decide) (by decide) (rcb_o k_84) (Nat.le_of_ble_eq_true rfl) fun n dd hn hd => ?_
  show WW (bX9_scan (gOr n dd)) n [some (vR (some (84))), some (vI (lo)), some (vI (hi))] _ _ _
  unfold bX9_scan
  have hn0 : 1000000000 ≤ n := hn
  refine WW_eq (sO_id (a := 84)).symm ?_
  refine WW_se (WW_wh 900000000 (fun m L1 c1 V1 => ∃ (e : Int) (X : oV), k ≤ e ∧ e ≤ N ∧ m = (N - e).toNat ∧ L1 = [some (vR (some 84)), some (vI lo), some (vI hi)] ∧ c1 = c ∧ V1 = sO V 84 X ∧ (∀ j : Nat, j ≠ 4 → X j = V 84 j) ∧ X 4 0 = e ∧ ∀ j, k ≤ j → j < e → lo ≤ t j ∧ t j ≤ hi) ?_ (N - k).toNat _ _ _ _ (by omega) ⟨k, V 84, by omega, kN, rfl, rfl, rfl, rfl, fun _ _ => rfl, h4, fun j j0 j1 => by omega⟩)
  rintro m k1 _ c _ hk1 ⟨e, X, e0, eN, rfl, rfl, rfl, rfl, hf, x4, hl⟩
  have p4 := cl_f (c := c) (V := V) (X := X) (L := [some (vR (some 84)), some (vI lo), some (vI hi)]) (k := 4) rfl rfl
  have p1 := cl_f (c := c) (V := V) (X := X) (L := [some (vR (some 84)), some (vI lo), some (vI hi)]) (k := 1) rfl rfl
  have p3 := cl_f (c := c) (V := V) (X := X) (L := [some (vR (some 84)), some (vI lo), some (vI hi)]) (k := 3) rfl rfl
  rw [x4] at p4
  rw [hf 1 (by decide), h1] at p1
  rw [hf 3 (by decide), h3] at p3
  have hcond := PE_and (PE_and (PE_cm (op := .lt) p4 p1) (fun hb => PE_cm (op := .ge) (cl_t ht rfl p4 (by omega) (by have := of_decide_eq_true hb; omega)) (PE_lI (i := 1) rfl))) (fun hb => PE_cm (op := .le) (cl_t ht rfl p4 (by omega) (by
    simp only [Bool.and_eq_true, cmB, decide_eq_true_eq] at hb
    omega)) (PE_lI (i := 2) rfl))
  by_cases hgo : e < N ∧ lo ≤ t e ∧ t e ≤ hi
  · have et : ((cmB ClassFile.Cond.lt e N && cmB ClassFile.Cond.ge (t e) lo) && cmB ClassFile.Cond.le (t e) hi) = true := by
      simp only [cmB, Bool.and_eq_true, decide_eq_true_eq]
      exact ⟨⟨hgo.1, hgo.2.1⟩, hgo.2.2⟩
    rw [et] at hcond
    refine EE_pe hcond ⟨fun _ => ?_, fun q => by cases q⟩
    refine WW_pu rfl (PE_lR rfl) k_84 PE_kI (LQ_n (WW_sk ⟨rfl, (N - (e + 1)).toNat, by omega, e + 1, sF X 4 (fun _ => e + 1), by omega, by omega, rfl, rfl, rfl, ?_, fun j hj => by rw [sF_ne hj]; exact hf j hj, by rw [sF_at], fun j j0 j1 => ?_⟩))
    · rw [up84, sO_at, x4, zAdd_id (by omega) (by omega)]
    · by_cases ee : j = e
      · rw [ee]; exact hgo.2
      · exact hl j j0 (by omega)
  · have et : ((cmB ClassFile.Cond.lt e N && cmB ClassFile.Cond.ge (t e) lo) && cmB ClassFile.Cond.le (t e) hi) = false := by
      cases hh : ((cmB ClassFile.Cond.lt e N && cmB ClassFile.Cond.ge (t e) lo) && cmB ClassFile.Cond.le (t e) hi)
      · rfl
      · simp only [cmB, Bool.and_eq_true, decide_eq_true_eq] at hh
        exact absurd ⟨hh.1.1, hh.1.2, hh.2⟩ hgo
    rw [et] at hcond
    refine EE_pe hcond ⟨(fun q => by cases q), fun _ => SQ_n ?_⟩
    have een : enF t N lo hi k = e := en_at (by omega) eN hl (fun hlt q => hgo ⟨hlt, q⟩)
    refine WW_rt (PE_o2 (f := zSub) p4 p3) ⟨_, rfl, rfl, ?_⟩
    rw [zSub_id (by omega) (by omega)]
    have := hq X hf (by rw [een]; exact x4)
    rwa [een] at this
theorem pc_60 {s0 e : Int} (ht : TX t N (V 0 0)) (h3 : V 84 3 0 = s0) (h4 : V 84 4 0 = e) (h0 : 0 ≤ s0) (h1 : s0 ≤ e) (he : e ≤ N) (hl : ∀ j : Int, s0 ≤ j → j < e → 48 ≤ t j ∧ t j ≤ 57) (hd3 : e - s0 ≤ 3) : PC 1 60 [vR (some 84)] c V (some (vI (vlV t s0 (e - s0).toNat))) := by
  obtain ⟨n0, n1⟩ := ht.1
  refine PC_of ?_
  refine CC_of mt_60 gb_60 (by decide) (by decide) (rcb_o k_84) (Nat.le_of_ble_eq_true rfl) fun n dd hn hd => ?_
  show WW (bX9_valueOfDigits (gOr n dd)) n [some (vR (some (84))), none, none] _ _ _
  unfold bX9_valueOfDigits
  have hn0 : 1000000000 ≤ n := hn
  have p3 : PE (fI 9 3 (lR 0)) [some (vR (some 84)), some (vI 0), none] c V s0 := by
    have := PE_fI (ci := 9) (k := 3) (c := c) (V := V) (L := [some (vR (some 84)), some (vI 0), none]) rfl (PE_lR (i := 0) rfl) k_84
    rwa [h3] at this
  refine WW_se (WW_st PE_kI (SQ_n (WW_se (WW_se (WW_st p3 (SQ_n ?_))))))
  refine WW_for 900000000 s0 e (fun j L1 c1 V1 => L1 = [some (vR (some 84)), some (vI (vlV t s0 (j - s0).toNat)), some (vI j)] ∧ c1 = c ∧ V1 = V) (by omega) (by omega) (by omega) (by omega) ⟨by rw [show (s0 - s0).toNat = 0 by omega]; rfl, rfl, rfl⟩ ?_ ?_ ?_
  · rintro j _ c V j0 j1 ⟨rfl, rfl, rfl⟩
    have := PE_fI (ci := 9) (k := 4) (c := c) (V := V) (L := [some (vR (some 84)), some (vI (vlV t s0 (j - s0).toNat)), some (vI j)]) rfl (PE_lR (i := 0) rfl) k_84
    rw [h4] at this
    exact ⟨rfl, this⟩
  · rintro j k' _ c V j0 j1 hk' ⟨rfl, rfl, rfl⟩
    have pt := PE_aT (c := c) (V := V) (L := [some (vR (some 84)), some (vI (vlV t s0 (j - s0).toNat)), some (vI j)]) (PE_lR (i := 0) rfl) k_84 (PE_lI (i := 2) rfl) (show 0 ≤ j by omega) (by omega)
    rw [(ht.2 j (by omega) (by omega)).1] at pt
    have hdg := hl j j0 j1
    have hv := vl_b (t := t) (s := s0) (n := (j - s0).toNat) (fun k k0 k1 => hl (s0 + k) (by omega) (by omega)) (by omega)
    have nx : vlV t s0 ((j - s0) + 1).toNat = 10 * vlV t s0 (j - s0).toNat + t (s0 + (j - s0)) - 48 := it_s (by omega)
    rw [show j - s0 + 1 = j + 1 - s0 by omega, show s0 + (j - s0) = j by omega] at nx
    refine WW_st (PE_o2 (f := zSub) (PE_o2 (f := zAdd) (PE_o2 (f := zMul) PE_kI (PE_lI rfl)) pt) PE_kI) (LQ_n ⟨rfl, ?_, rfl, rfl⟩)
    rw [zMul_id (by omega) (by omega), zAdd_id (by omega) (by omega), zSub_id (by omega) (by omega), nx]
    rfl
  · rintro _ c V ⟨rfl, rfl, rfl⟩
    exact SQ_n (WW_rt (PE_lI rfl) ⟨_, rfl, rfl, rfl, rfl, rfl⟩)
theorem cc_58 {q : Int} (ht : TX t N (V 0 0)) (h1 : V 84 1 0 = N ∧ V 84 9 0 = 0) (h4 : V 84 4 0 = q) (q0 : 0 ≤ q) (qN : q ≤ N) (hq : ∀ X, FrC (V 84) X → CT t N X q → R none c (sO V 84 X)) : CC 2 58 [vR (some 84)] c V R := by
  obtain ⟨n0, n1⟩ := ht.1
  refine CC_of mt_58 gb_58 (by decide) (by decide) (rcb_o k_84) (Nat.le_of_ble_eq_true rfl) fun n dd hn hd => ?_
  show WW (bX9_advance (gOr n dd)) n [some (vR (some (84))), none] _ _ _
  unfold bX9_advance
  have hn0 : 1000000000 ≤ n := hn
  refine WW_eq (sO_id (a := 84)).symm ?_
  have p4 := cl_f (c := c) (V := V) (X := V 84) (L := [some (vR (some 84)), none]) (k := 4) rfl rfl
  rw [h4] at p4
  refine WW_se (WW_se (WW_pf rfl (PE_lR rfl) k_84 p4 (SQ_n ?_)))
  rw [up84]
  refine WW_se (WW_wh 900000000 (fun m L1 c1 V1 => ∃ (k : Int) (X : oV), q ≤ k ∧ k ≤ N ∧ m = (N - k).toNat ∧ L1 = [some (vR (some 84)), none] ∧ c1 = c ∧ V1 = sO V 84 X ∧ FrC (V 84) X ∧ X 3 0 = k ∧ ∀ j, q ≤ j → j < k → t j = 32) ?_ (N - q).toNat _ _ _ _ (by omega) ⟨q, sF (V 84) 3 (fun _ => q), by omega, qN, rfl, rfl, rfl, rfl, FrC.rf.ws (by omega) (by omega), by rw [sF_at], fun j j0 j1 => by omega⟩)
  rintro m k1 _ c _ hk1 ⟨k, X, k0, kN, rfl, rfl, rfl, rfl, hf, x3, hl⟩
  have p3 := cl_f (c := c) (V := V) (X := X) (L := [some (vR (some 84)), none]) (k := 3) rfl rfl
  have p1 := cl_f (c := c) (V := V) (X := X) (L := [some (vR (some 84)), none]) (k := 1) rfl rfl
  rw [x3] at p3
  rw [hf 1 (by omega), h1.1] at p1
  have hcond := PE_and (PE_cm (op := .lt) p3 p1) (fun hb => PE_cm (op := .eq) (cl_t ht rfl p3 (by omega) (by have := of_decide_eq_true hb; omega)) (PE_kI (z := 32)))
  by_cases hgo : k < N ∧ t k = 32
  · have et : (cmB ClassFile.Cond.lt k N && cmB ClassFile.Cond.eq (t k) 32) = true := by
      simp only [cmB, Bool.and_eq_true, decide_eq_true_eq]
      exact hgo
    rw [et] at hcond
    refine EE_pe hcond ⟨fun _ => ?_, fun q => by cases q⟩
    refine WW_pu rfl (PE_lR rfl) k_84 PE_kI (LQ_n (WW_sk ⟨rfl, (N - (k + 1)).toNat, by omega, k + 1, sF X 3 (fun _ => k + 1), by omega, by omega, rfl, rfl, rfl, ?_, hf.ws (by omega) (by omega), by rw [sF_at], fun j j0 j1 => ?_⟩))
    · rw [up84, sO_at, x3, zAdd_id (by omega) (by omega)]
    · by_cases ee : j = k
      · rw [ee]; exact hgo.2
      · exact hl j j0 (by omega)
  have et : (cmB ClassFile.Cond.lt k N && cmB ClassFile.Cond.eq (t k) 32) = false := by
    cases hh : (cmB ClassFile.Cond.lt k N && cmB ClassFile.Cond.eq (t k) 32)
    · rfl
    · simp only [cmB, Bool.and_eq_true, decide_eq_true_eq] at hh
      exact absurd hh hgo
  rw [et] at hcond
  refine EE_pe hcond ⟨(fun q => by cases q), fun _ => SQ_n ?_⟩
  have est : stF t N q = k := st_at k0 kN hl (fun hlt z => hgo ⟨hlt, z⟩)
  refine WW_se (WW_pf rfl (PE_lR rfl) k_84 p3 (SQ_n (WW_se (WW_pf rfl (PE_lR rfl) k_84 PE_kI (SQ_n ?_)))))
  rw [up84, up84]
  obtain ⟨Y, hY⟩ : ∃ Y, Y = sF (sF X 4 (fun _ => k)) 2 (fun _ => 0) := ⟨_, rfl⟩
  rw [← hY]
  have y3 : Y 3 0 = k := by rw [hY, sF_ne (by decide), sF_ne (by decide)]; exact x3
  have y4 : Y 4 0 = k := by rw [hY, sF_ne (by decide), sF_at]
  have y2 : Y 2 0 = 0 := by rw [hY, sF_at]
  have hfY : FrC (V 84) Y := by rw [hY]; exact (hf.ws (by omega) (by omega)).ws (by omega) (by omega)
  clear hY hcond et p3 p1 x3 hf p4
  have y1 : Y 1 0 = N := by rw [hfY 1 (by omega)]; exact h1.1
  have fin : ∀ X2 : oV, FrC (V 84) X2 → X2 2 0 = kdC (kdF t N q) → X2 3 0 = k → X2 4 0 = nxF t N q → (kdF t N q = 3 → X2 5 0 = vlF t N q) → R none c (sO V 84 X2) := fun X2 hf2 a2 a3 a4 a5 => hq X2 hf2 ⟨⟨q0, qN⟩, ⟨by rw [hf2 1 (by omega)]; exact h1.1, by rw [hf2 9 (by omega)]; exact h1.2⟩, a2, by rw [est]; exact a3, a4, a5⟩
  have p3 := cl_f (c := c) (V := V) (X := Y) (L := [some (vR (some 84)), none]) (k := 3) rfl rfl
  have p1 := cl_f (c := c) (V := V) (X := Y) (L := [some (vR (some 84)), none]) (k := 1) rfl rfl
  rw [y3] at p3
  rw [y1] at p1
  by_cases hkN : k < N
  rotate_left
  · have ek : kdF t N q = 1 := by unfold kdF; rw [est, if_pos (by omega)]
    have en : nxF t N q = k := by unfold nxF; rw [est, if_pos (by omega)]
    refine WW_se (WW_if (PE_cm p3 p1) (fun _ => WW_rtV (SQ_s (SQ_s ⟨_, rfl, rfl, ?_⟩))) (fun hb => absurd (show k ≥ N by omega) (of_decide_eq_false hb)))
    exact fin Y hfY (by rw [y2, ek]; rfl) y3 (by rw [y4, en]) (fun z => by omega)
  refine WW_se (WW_if (PE_cm p3 p1) (fun hb => absurd hkN (by have : k ≥ N := of_decide_eq_true hb; omega)) (fun _ => WW_sk (SQ_n ?_)))
  refine WW_se (WW_st (cl_t ht rfl p3 (by omega) (by omega)) (SQ_n ?_))
  have eb := fun lo hi => en_b (t := t) (N := N) (lo := lo) (hi := hi) (q := k) (by omega) (by omega)
  have hw := ht.2 k (by omega) (by omega)
  have pl := PE_and (PE_cm (op := .ge) (PE_lI (i := 1) (L := [some (vR (some 84)), some (vI (t k))]) (c := c) (V := sO V 84 Y) rfl) (PE_kI (z := 97))) (fun _ => PE_cm (op := .le) (PE_lI (i := 1) rfl) (PE_kI (z := 122)))
  have pd := PE_and (PE_cm (op := .ge) (PE_lI (i := 1) (L := [some (vR (some 84)), some (vI (t k))]) (c := c) (V := sO V 84 Y) rfl) (PE_kI (z := 48))) (fun _ => PE_cm (op := .le) (PE_lI (i := 1) rfl) (PE_kI (z := 57)))
  have el : (cmB ClassFile.Cond.ge (t k) 97 && cmB ClassFile.Cond.le (t k) 122) = letB (t k) := rfl
  have ed : (cmB ClassFile.Cond.ge (t k) 48 && cmB ClassFile.Cond.le (t k) 57) = digB (t k) := rfl
  rw [el] at pl
  rw [ed] at pd
  by_cases hlet : letB (t k) = true
  · -- a word
    have en : nxF t N q = enF t N 97 122 k := by unfold nxF; rw [est, if_neg (by omega), if_pos hlet]
    refine WW_if pl (fun _ => ?_) (fun hb => by rw [hlet] at hb; cases hb)
    refine WW_pfE rfl (PE_lR rfl) (EE_ite (EE_cm (EE_cI (PE_aCR (PE_lR rfl) (PE_aCI PE_kI (PE_aCI PE_kI PE_a0))) hn (cc_59 (t := t) (N := N) (k := k) (by rw [sO_ne (by decide)]; exact ht) (by rw [sO_at]; exact y1) (by rw [sO_at]; exact y3) (by rw [sO_at]; exact y4) (by omega) (by omega) fun X2 hf2 x24 => ⟨_, rfl, EE_pe PE_kI ⟨fun hb => EE_pe PE_kI ⟨k_84, ?_⟩, fun hb => EE_pe PE_kI ⟨k_84, ?_⟩⟩⟩) (by omega))))
    · have hb : enF t N 97 122 k - k ≤ 8 := of_decide_eq_true hb
      have ek : kdF t N q = 2 := by unfold kdF; rw [est, if_neg (by omega), if_pos hlet, if_pos hb]
      rw [sO_sO, up84]
      rw [sO_at] at hf2
      refine SQ_n (WW_rtV ⟨_, rfl, rfl, fin _ (fun j hj => ?_) ?_ ?_ ?_ (fun z => by omega)⟩)
      · rw [sF_ne (by omega), hf2 j (by omega)]; exact hfY j hj
      · rw [sF_at, ek]; rfl
      · rw [sF_ne (by decide), hf2 3 (by decide)]; exact y3
      · rw [sF_ne (by decide), en]; exact x24
    · have hb : ¬ enF t N 97 122 k - k ≤ 8 := of_decide_eq_false hb
      have ek : kdF t N q = 0 := by unfold kdF; rw [est, if_neg (by omega), if_pos hlet, if_neg hb]
      rw [sO_sO, up84]
      rw [sO_at] at hf2
      refine SQ_n (WW_rtV ⟨_, rfl, rfl, fin _ (fun j hj => ?_) ?_ ?_ ?_ (fun z => by omega)⟩)
      · rw [sF_ne (by omega), hf2 j (by omega)]; exact hfY j hj
      · rw [sF_at, ek]; rfl
      · rw [sF_ne (by decide), hf2 3 (by decide)]; exact y3
      · rw [sF_ne (by decide), en]; exact x24
  refine WW_if pl (fun hb => absurd hb hlet) (fun _ => ?_)
  by_cases hdig : digB (t k) = true
  · -- a number
    have en : nxF t N q = enF t N 48 57 k := by unfold nxF; rw [est, if_neg (by omega), if_neg hlet, if_pos hdig]
    obtain ⟨b1, b2, b3, -⟩ := eb 48 57
    refine WW_if pd (fun _ => ?_) (fun hb => by rw [hdig] at hb; cases hb)
    refine WW_se (WW_pfE rfl (PE_lR rfl) (EE_ite (EE_cm (EE_cI (PE_aCR (PE_lR rfl) (PE_aCI PE_kI (PE_aCI PE_kI PE_a0))) hn (cc_59 (t := t) (N := N) (k := k) (by rw [sO_ne (by decide)]; exact ht) (by rw [sO_at]; exact y1) (by rw [sO_at]; exact y3) (by rw [sO_at]; exact y4) (by omega) (by omega) fun X2 hf2 x24 => ⟨_, rfl, EE_pe PE_kI ⟨fun hb => EE_pe PE_kI ⟨k_84, SQ_n ?_⟩, fun hb => EE_pe PE_kI ⟨k_84, SQ_n ?_⟩⟩⟩) (by omega)))))
    · have hb : enF t N 48 57 k - k ≤ 3 := of_decide_eq_true hb
      have ek : kdF t N q = 3 := by unfold kdF; rw [est, if_neg (by omega), if_neg hlet, if_pos hdig, if_pos hb]
      rw [sO_sO, up84]
      rw [sO_at] at hf2
      have p2 := cl_f (c := c) (V := V) (X := sF X2 2 (fun _ => 2)) (L := [some (vR (some 84)), some (vI (t k))]) (k := 2) rfl rfl
      rw [sF_at] at p2
      have z3 : sF X2 2 (fun _ => 2) 3 0 = k := by rw [sF_ne (by decide), hf2 3 (by decide)]; exact y3
      have z4 : sF X2 2 (fun _ => 2) 4 0 = enF t N 48 57 k := by rw [sF_ne (by decide)]; exact x24
      have pv := PE_cI (c := c) (V := sO V 84 (sF X2 2 (fun _ => 2))) (L := [some (vR (some 84)), some (vI (t k))]) (PE_aCR (PE_lR (i := 0) rfl) PE_a0) hn (pc_60 (t := t) (N := N) (s0 := k) (e := enF t N 48 57 k) (by rw [sO_ne (by decide)]; exact ht) (by rw [sO_at]; exact z3) (by rw [sO_at]; exact z4) (by omega) b1 b2 b3 hb) (by omega : 1 ≤ dd)
      refine WW_pf rfl (PE_lR rfl) k_84 (PE_ite (v := 0) (PE_cm (op := .eq) p2 PE_kI) (fun _ => pv) (fun _ => PE_kI)) (SQ_n ?_)
      rw [up84]
      refine WW_rtV ⟨_, rfl, rfl, fin _ (fun j hj => ?_) ?_ ?_ ?_ (fun _ => ?_)⟩
      · rw [sF_ne (by omega), sF_ne (by omega), hf2 j (by omega)]; exact hfY j hj
      · rw [sF_ne (by decide), sF_at, ek]; rfl
      · rw [sF_ne (by decide)]; exact z3
      · rw [sF_ne (by decide), en]; exact z4
      · rw [sF_at]
        unfold vlF lnF
        rw [en, est]
        rfl
    · have hb : ¬ enF t N 48 57 k - k ≤ 3 := of_decide_eq_false hb
      have ek : kdF t N q = 0 := by unfold kdF; rw [est, if_neg (by omega), if_neg hlet, if_pos hdig, if_neg hb]
      rw [sO_sO, up84]
      rw [sO_at] at hf2
      have p2 := cl_f (c := c) (V := V) (X := sF X2 2 (fun _ => 5)) (L := [some (vR (some 84)), some (vI (t k))]) (k := 2) rfl rfl
      rw [sF_at] at p2
      refine WW_pf rfl (PE_lR rfl) k_84 (PE_ite (u := 0) (PE_cm (op := .eq) p2 PE_kI) (fun hb => by cases hb) (fun _ => PE_kI)) (SQ_n ?_)
      rw [up84]
      refine WW_rtV ⟨_, rfl, rfl, fin _ (fun j hj => ?_) ?_ ?_ ?_ (fun z => by omega)⟩
      · rw [sF_ne (by omega), sF_ne (by omega), hf2 j (by omega)]; exact hfY j hj
      · rw [sF_ne (by decide), sF_at, ek]; rfl
      · rw [sF_ne (by decide), sF_ne (by decide), hf2 3 (by decide)]; exact y3
      · rw [sF_ne (by decide), sF_ne (by decide), en]; exact x24
  refine WW_if pd (fun hb => absurd hb hdig) (fun _ => ?_)
  have en : nxF t N q = k + 1 := by unfold nxF; rw [est, if_neg (by omega), if_neg hlet, if_neg hdig]
  have ek : kdF t N q = if t k = 59 then 4 else if t k = 44 then 5 else 0 := by unfold kdF; rw [est, if_neg (by omega), if_neg hlet, if_neg hdig]
  have p3' := cl_f (c := c) (V := V) (X := Y) (L := [some (vR (some 84)), some (vI (t k))]) (k := 3) rfl rfl
  rw [y3] at p3'
  refine WW_se (WW_pf rfl (PE_lR rfl) k_84 (PE_o2 (f := zAdd) p3' PE_kI) (SQ_n ?_))
  rw [up84, zAdd_id (by omega) (by omega)]
  refine WW_pf rfl (PE_lR rfl) k_84 (PE_ite (PE_cm (op := .eq) (PE_lI rfl) PE_kI) (fun _ => PE_kI) (fun _ => PE_ite (PE_cm (op := .eq) (PE_lI rfl) PE_kI) (fun _ => PE_kI) (fun _ => PE_kI))) (SQ_n ?_)
  rw [up84]
  refine WW_rtV ⟨_, rfl, rfl, fin _ (fun j hj => ?_) ?_ ?_ ?_ (fun z => ?_)⟩
  · rw [sF_ne (by omega), sF_ne (by omega)]; exact hfY j hj
  · rw [sF_at, ek]
    by_cases c1 : t k = 59
    · simp [cmB, c1, kdC]
    · by_cases c2 : t k = 44
      · simp [cmB, c2, kdC]
      · simp [cmB, c1, c2, kdC]
  · rw [sF_ne (by decide), sF_ne (by decide)]; exact y3
  · rw [sF_ne (by decide), sF_at, en]
  · rw [ek] at z
    split at z
    · cases z
    · split at z <;> cases z
end CTK
