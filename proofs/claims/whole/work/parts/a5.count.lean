/-! PAIRINGS in the class: count -/
def pS (g : Nat → Nat) (j : Nat) : Nat := ((List.range j).map g).sum
theorem pS_s {g : Nat → Nat} {j : Nat} : pS g (j + 1) = pS g j + g j := by
  unfold pS
  rw [List.range_succ, List.map_append, List.sum_append]
  rfl
theorem pS_le {g : Nat → Nat} {j N : Nat} (h : j ≤ N) : pS g j ≤ pS g N := by
  induction N with
  | zero => have : j = 0 := by omega
            subst this; exact Nat.le_refl _
  | succ N ih =>
    by_cases e : j = N + 1
    · subst e; exact Nat.le_refl _
    · have := ih (by omega)
      rw [pS_s]; omega
theorem bits_dec : ∀ F ∈ List.range 256, ∀ k ∈ List.range 8, zAnd (F : Int) (zShl 1 (k : Int)) = (if F.testBit k = true then zShl 1 (k : Int) else 0) ∧ (F.testBit k = true → zXor (F : Int) (zShl 1 (k : Int)) = ((F - 2 ^ k : Nat) : Int) ∧ popF ((F - 2 ^ k : Nat) : Int) + 1 = popF (F : Int) ∧ 2 ^ k ≤ F) := by decide +kernel
theorem shlP_dec : ∀ P ∈ List.range 9, zShl 1 (P : Int) = ((2 ^ P : Nat) : Int) := by decide +kernel
theorem pop0_dec : ∀ F ∈ List.range 256, F = 0 ∨ 1 ≤ popF (F : Int) := by decide +kernel
theorem zAnd_as {x y z : Int} : zAnd (zAnd x y) z = zAnd y (zAnd x z) := by
  unfold zAnd
  rw [Int32.ofInt_toInt, Int32.ofInt_toInt]
  congr 1
  rw [Int32.and_comm (Int32.ofInt x), Int32.and_assoc]
theorem zAnd_r0 {x : Int} : zAnd x 0 = 0 := by
  unfold zAnd
  have : Int32.ofInt 0 = 0 := rfl
  rw [this, Int32.and_zero]
  rfl
/-- what a person may have, some being known -/
def opnF (V : Mem) (asked : Int) (i : Int) : Int := if ¬ zAnd asked (zShl 1 i) = 0 then V 294 3 i else V 294 2 i
def chF2 (V : Mem) (asked : Int) (i k : Nat) : Bool := decide (¬ zAnd (opnF V asked i) (zShl 1 (k : Int)) = 0)
section CU
variable {c : cT} {V : Mem} {R : Option gAV → cT → Mem → Prop}
theorem cc_50 {asked : Int} {m P : Nat} (hpn : V 294 0 0 = (m : Int)) (hP0 : V 294 5 0 = (P : Int)) (hm7 : m ≤ 7) (hP2 : 1 ≤ P) (hP8 : P ≤ 8) (hq : ∀ w, R (some (vI (((Mk (chF2 V asked) P m).length : Nat) : Int))) c (sM V 294 4 w)) : CC 3 50 [vR (some 294), vI asked] c V R := by
  have ff : ∀ f f' : Int → Int, sM (sM V 294 4 f) 294 4 f' = sM V 294 4 f' := fun f f' => sM_sM
  refine CC_of mt_50 gb_50 (by decide) (by decide) (rcb_o k_294) (Nat.le_of_ble_eq_true rfl) fun n dd hn hd => ?_
  show WW (bX7_count (gOr n dd)) n [some (vR (some (294))), some (vI (asked)), none, none, none, none, none] _ _ _
  unfold bX7_count
  have hn0 : 1000000000 ≤ n := hn
  refine WW_se (WW_st PE_kI (SQ_n (WW_se (WW_asF (ty := 0) (z := 1) rfl (by decide) (PE_lR rfl) k_294 PE_kI (by decide) (by decide) PE_kI rfl (SQ_n ?_)))))
  have h00 : ∀ w, sM V 294 4 w 294 0 0 = (m : Int) := fun w => by rw [sM_k (by decide)]; exact hpn
  have h50 : ∀ w, sM V 294 4 w 294 5 0 = (P : Int) := fun w => by rw [sM_k (by decide)]; exact hP0
  have h2o : ∀ w k, k ≠ 4 → sM V 294 4 w 294 k = V 294 k := fun w k hk => sM_k hk
  by_cases hm0 : m = 0
  · subst hm0
    refine WW_se (WW_if (PE_cz (PE_fI rfl (PE_lR rfl) k_294)) (fun _ => WW_rt PE_kI (SQ_s ⟨_, rfl, rfl, hq _⟩)) (fun hb => ?_))
    have := of_decide_eq_false hb
    exact absurd (h00 _) this
  have hmI : ¬ (m : Int) = 0 := by omega
  refine WW_se (WW_if (PE_cz (PE_fI rfl (PE_lR rfl) k_294)) (fun hb => ?_) (fun _ => WW_sk (SQ_n ?_)))
  · have := of_decide_eq_true hb
    rw [h00] at this
    exact absurd this hmI
  obtain ⟨ch, hch⟩ : ∃ ch, ch = chF2 V asked := ⟨_, rfl⟩
  rw [← hch] at hq
  have e2P := shlP_dec P (List.mem_range.mpr (by omega))
  have h256 : 2 ^ P ≤ 256 := by
    rcases (by omega : P = 1 ∨ P = 2 ∨ P = 3 ∨ P = 4 ∨ P = 5 ∨ P = 6 ∨ P = 7 ∨ P = 8) with rfl | rfl | rfl | rfl | rfl | rfl | rfl | rfl <;> decide
  have h2P1 := Nat.two_pow_pos P
  have hpow : ∀ i : Nat, i ≤ 8 → 8 ^ i ≤ 16777216 := fun i hi => by
    rcases (by omega : i = 0 ∨ i = 1 ∨ i = 2 ∨ i = 3 ∨ i = 4 ∨ i = 5 ∨ i = 6 ∨ i = 7 ∨ i = 8) with rfl | rfl | rfl | rfl | rfl | rfl | rfl | rfl | rfl <;> decide
  have hMl : ∀ i : Nat, i ≤ 8 → (Mk ch P i).length ≤ 16777216 := fun i hi => Nat.le_trans (Mk_le hP8) (hpow i hi)
  have htot := cS_tot (Q := fun S => decide (popF (S : Int) = (m : Int))) (N := 2 ^ P) (l := Mk ch P m) fun x hx => ⟨(Mk_mem hP8 hx).1, by simpa using (Mk_mem hP8 hx).2⟩
  obtain ⟨gT, hgT⟩ : ∃ gT : Nat → Nat, gT = fun S => if (fun S : Nat => decide (popF (S : Int) = (m : Int))) S = true then cS S (Mk ch P m) else 0 := ⟨_, rfl⟩
  rw [← hgT] at htot
  have htot : pS gT (2 ^ P) = (Mk ch P m).length := htot
  refine WW_se (WW_se (WW_st PE_kI (SQ_n ?_)))
  refine WW_for 900000000 1 ((2 ^ P : Nat) : Int) (fun j L1 c1 V1 => ∃ (F : Nat) (z4 z5 z6 : Option gAV) (w : Int → Int), j = (F : Int) ∧ L1 = [some (vR (some 294)), some (vI asked), some (vI ((pS gT F : Nat) : Int)), some (vI j), z4, z5, z6] ∧ c1 = c ∧ V1 = sM V 294 4 w ∧ ∀ S : Nat, S < F → popF (S : Int) ≤ (m : Int) → w S = ((cS S (Mk ch P (popF (S : Int)).toNat) : Nat) : Int)) (by omega) (by omega) (by omega) (by omega) ⟨1, none, none, none, gUz (V 294 4) 0 1, rfl, ?_, rfl, rfl, fun S hS hp => ?_⟩ ?_ ?_ ?_
  · have : pS gT 1 = 0 := by
      have hpz : ¬ popF ((0 : Nat) : Int) = (m : Int) := by
        have : popF ((0 : Nat) : Int) = 0 := by decide
        omega
      have g0 : gT 0 = 0 := by
        rw [hgT]
        exact if_neg (fun q => hpz (of_decide_eq_true q))
      rw [pS_s]
      show 0 + gT 0 = 0
      rw [g0]
    rw [this]
    rfl
  · have : S = 0 := by omega
    subst this
    rfl
  · rintro j _ c _ j0 j1 ⟨F, z4, z5, z6, w, rfl, rfl, rfl, rfl, hw⟩
    refine ⟨rfl, ?_⟩
    have := PE_o2 (f := zShl) (PE_kI (z := 1) (L := [some (vR (some 294)), some (vI asked), some (vI ((pS gT F : Nat) : Int)), some (vI (F : Int)), z4, z5, z6]) (c := c) (V := sM V 294 4 w)) (PE_fI (ci := 7) (k := 5) rfl (PE_lR (i := 0) rfl) k_294)
    rw [h50, e2P] at this
    exact this
  · rintro j k' _ c _ j0 j1 hk' ⟨F, z4, z5, z6, w, rfl, rfl, rfl, rfl, hw⟩
    have hF : F < 2 ^ P := by omega
    have hF256 : F < 256 := by omega
    have hpop := pop_le (x := (F : Int))
    have hp1 := (pop0_dec F (List.mem_range.mpr hF256)).resolve_left (by omega)
    obtain ⟨i, hi⟩ : ∃ i : Nat, popF (F : Int) = ((i + 1 : Nat) : Int) := ⟨(popF (F : Int) - 1).toNat, by omega⟩
    have hi8 : i + 1 ≤ 8 := by omega
    have ezi : zSub (popF (F : Int)) 1 = (i : Int) := by rw [hi, zSub_id (by omega) (by omega)]; omega
    refine WW_se (WW_st (PE_o2 (PE_cI (PE_aCI (PE_lI rfl) PE_a0) hn (pc_302 (by omega) (by omega)) (by omega)) PE_kI) (SQ_n ?_))
    rw [ezi]
    refine WW_se (WW_asF (ty := 0) (z := 0) rfl (by decide) (PE_lR rfl) k_294 (PE_lI rfl) (by omega) (by omega) PE_kI rfl (SQ_n ?_))
    rw [sM_at, ff]
    have hwS : ∀ (x : Int) (S : Nat), S < F → popF (S : Int) ≤ (m : Int) → gUz w F x S = ((cS S (Mk ch P (popF (S : Int)).toNat) : Nat) : Int) := fun x S hS hp => by rw [gUz_ne (by omega)]; exact hw S hS hp
    have hpsm : pS gT F ≤ 16777216 := by
      have a := pS_le (g := gT) (j := F) (N := 2 ^ P) (by omega)
      have b := hMl m (by omega)
      omega
    have hgs : pS gT (F + 1) = pS gT F + gT F := pS_s
    by_cases him : i < m
    · have himI : (i : Int) < (m : Int) := by omega
      refine WW_if (PE_cm (PE_lI rfl) (PE_fI rfl (PE_lR rfl) k_294)) (fun _ => ?_) (fun hb => absurd (by rw [h00]; exact himI) (of_decide_eq_false hb))
      have hop : (if cmB ClassFile.Cond.ne (zAnd asked (zShl 1 (i : Int))) 0 = true then sM V 294 4 (gUz w F 0) 294 3 (i : Int) else sM V 294 4 (gUz w F 0) 294 2 (i : Int)) = opnF V asked (i : Int) := by
        rw [h2o _ 3 (by decide), h2o _ 2 (by decide)]
        unfold opnF
        simp [cmB]
      refine WW_se (WW_st (PE_o2 (PE_lI rfl) (PE_ite (PE_cz (PE_o2 (PE_lI rfl) (PE_o2 PE_kI (PE_lI rfl)))) (fun _ => PE_aF rfl (by decide) (PE_lR rfl) k_294 (PE_lI rfl) (by omega) (by omega)) (fun _ => PE_aF rfl (by decide) (PE_lR rfl) k_294 (PE_lI rfl) (by omega) (by omega)))) (SQ_n ?_))
      rw [hop]
      obtain ⟨gI, hgI⟩ : ∃ gI : Nat → Nat, gI = fun k => if F.testBit k = true ∧ ch i k = true then cS (F - 2 ^ k) (Mk ch P i) else 0 := ⟨_, rfl⟩
      have hfull : pS gI P = cS F (Mk ch P (i + 1)) := by rw [hgI]; exact cS_Mk.symm
      have hcl : cS F (Mk ch P (i + 1)) ≤ 16777216 := Nat.le_trans cS_le (hMl (i + 1) hi8)
      refine WW_se (WW_se (WW_st PE_kI (SQ_n ?_)))
      refine WW_for 800000000 0 (P : Int) (fun j L1 c1 V1 => ∃ k : Nat, j = (k : Int) ∧ L1 = [some (vR (some 294)), some (vI asked), some (vI ((pS gT F : Nat) : Int)), some (vI (F : Int)), some (vI (i : Int)), some (vI (zAnd (F : Int) (opnF V asked (i : Int)))), some (vI j)] ∧ c1 = c ∧ V1 = sM V 294 4 (gUz w F ((pS gI k : Nat) : Int))) (by omega) (by omega) (by omega) (by omega) ⟨0, rfl, rfl, rfl, rfl⟩ ?_ ?_ ?_
      · rintro j _ c _ j0 j1 ⟨k, rfl, rfl, rfl, rfl⟩
        refine ⟨rfl, ?_⟩
        have := PE_fI (ci := 7) (k := 5) (c := c) (V := sM V 294 4 (gUz w F ((pS gI k : Nat) : Int))) (L := [some (vR (some 294)), some (vI asked), some (vI ((pS gT F : Nat) : Int)), some (vI (F : Int)), some (vI (i : Int)), some (vI (zAnd (F : Int) (opnF V asked (i : Int)))), some (vI (k : Int))]) rfl (PE_lR (i := 0) rfl) k_294
        rwa [h50] at this
      · rintro j k2 _ c _ j0 j1 hk2 ⟨k, rfl, rfl, rfl, rfl⟩
        have hkP : k < P := by omega
        obtain ⟨b1, b2⟩ := bits_dec F (List.mem_range.mpr hF256) k (List.mem_range.mpr (by omega))
        have gs : pS gI (k + 1) = pS gI k + gI k := pS_s
        have hble : pS gI (k + 1) ≤ 16777216 := by
          have := pS_le (g := gI) (j := k + 1) (N := P) (by omega)
          omega
        have hbit : zAnd (zAnd (F : Int) (opnF V asked (i : Int))) (zShl 1 (k : Int)) = if F.testBit k = true then zAnd (opnF V asked (i : Int)) (zShl 1 (k : Int)) else 0 := by
          rw [zAnd_as, b1]
          split
          · rfl
          · exact zAnd_r0
        have hchk : ch i k = decide (¬ zAnd (opnF V asked (i : Int)) (zShl 1 (k : Int)) = 0) := by rw [hch]; rfl
        by_cases hc : F.testBit k = true ∧ ch i k = true
        · have hgk : gI k = cS (F - 2 ^ k) (Mk ch P i) := by rw [hgI]; exact if_pos hc
          have hc2 : ¬ zAnd (zAnd (F : Int) (opnF V asked (i : Int))) (zShl 1 (k : Int)) = 0 := by
            rw [hbit, if_pos hc.1]
            have := hc.2
            rw [hchk] at this
            exact of_decide_eq_true this
          obtain ⟨b3, b4, b5⟩ := b2 hc.1
          have hpp : popF ((F - 2 ^ k : Nat) : Int) = (i : Int) := by omega
          have h2k := Nat.two_pow_pos k
          have hws := hwS ((pS gI k : Nat) : Int) (F - 2 ^ k) (by omega) (by omega)
          have hpt : (popF ((F - 2 ^ k : Nat) : Int)).toNat = i := by omega
          rw [hpt] at hws
          refine WW_if (PE_cz (PE_o2 (PE_lI rfl) (PE_o2 PE_kI (PE_lI rfl)))) (fun _ => ?_) (fun hb => absurd hc2 (of_decide_eq_false hb))
          have hx : zXor (F : Int) (zShl 1 (k : Int)) = ((F - 2 ^ k : Nat) : Int) := b3
          refine WW_au0 rfl (PE_lR rfl) k_294 (PE_lI rfl) (by omega) (by omega) (PE_aF rfl (by decide) (PE_lR rfl) k_294 (PE_o2 (PE_lI rfl) (PE_o2 PE_kI (PE_lI rfl))) (by rw [hx]; omega) (by rw [hx]; omega)) (LQ_n ⟨rfl, k + 1, rfl, rfl, rfl, ?_⟩)
          rw [sM_at, ff, gUz_at, hx, hws, zAdd_id (by omega) (by omega), gs, hgk]
          congr 1
          funext q
          unfold gUz
          split
          · omega
          · rfl
        · have hgk : gI k = 0 := by rw [hgI]; exact if_neg hc
          have hc2 : zAnd (zAnd (F : Int) (opnF V asked (i : Int))) (zShl 1 (k : Int)) = 0 := by
            rw [hbit]
            split
            · rename_i hb
              by_cases hz : zAnd (opnF V asked (i : Int)) (zShl 1 (k : Int)) = 0
              · exact hz
              · exact absurd ⟨hb, by rw [hchk]; exact decide_eq_true hz⟩ hc
            · rfl
          refine WW_if (PE_cz (PE_o2 (PE_lI rfl) (PE_o2 PE_kI (PE_lI rfl)))) (fun hb => absurd hc2 (of_decide_eq_true hb)) (fun _ => WW_sk (LQ_n ⟨rfl, k + 1, rfl, rfl, rfl, ?_⟩))
          rw [gs, hgk, Nat.add_zero]
      · rintro _ c _ ⟨k, hk, rfl, rfl, rfl⟩
        have hkP : k = P := by omega
        subst hkP
        rw [hfull]
        have ezm : zSub (sM V 294 4 (gUz w F ((cS F (Mk ch k (i + 1)) : Nat) : Int)) 294 0 0) 1 = (m : Int) - 1 := by rw [h00, zSub_id (by omega) (by omega)]
        have eF4 : sM V 294 4 (gUz w F ((cS F (Mk ch k (i + 1)) : Nat) : Int)) 294 4 (F : Int) = ((cS F (Mk ch k (i + 1)) : Nat) : Int) := by rw [sM_at, gUz_at]
        refine SQ_n (WW_st (PE_o2 (PE_lI rfl) (PE_ite (PE_cm (PE_lI rfl) (PE_o2 (PE_fI rfl (PE_lR rfl) k_294) PE_kI)) (fun _ => PE_aF rfl (by decide) (PE_lR rfl) k_294 (PE_lI rfl) (by omega) (by omega)) (fun _ => PE_kI))) (LQ_n ⟨rfl, F + 1, some (vI (i : Int)), some (vI (zAnd (F : Int) (opnF V asked (i : Int)))), some (vI (k : Int)), gUz w F ((cS F (Mk ch k (i + 1)) : Nat) : Int), rfl, ?_, rfl, rfl, fun S hS hp => ?_⟩))
        · rw [ezm, eF4]
          have : zAdd ((pS gT F : Nat) : Int) (if cmB ClassFile.Cond.eq (i : Int) ((m : Int) - 1) = true then ((cS F (Mk ch k (i + 1)) : Nat) : Int) else 0) = ((pS gT (F + 1) : Nat) : Int) := by
            rw [hgs]
            by_cases e : (i : Int) = (m : Int) - 1
            · have e2 : i + 1 = m := by omega
              have hgF : gT F = cS F (Mk ch k m) := by
                rw [hgT]
                exact if_pos (decide_eq_true (by rw [hi, e2]))
              have ec : cmB ClassFile.Cond.eq (i : Int) ((m : Int) - 1) = true := decide_eq_true e
              rw [if_pos ec, hgF, ← e2, zAdd_id (by omega) (by omega)]
              omega
            · have hgF : gT F = 0 := by
                rw [hgT]
                refine if_neg (fun q => e ?_)
                have := of_decide_eq_true q
                omega
              have ec : ¬ cmB ClassFile.Cond.eq (i : Int) ((m : Int) - 1) = true := fun q => e (of_decide_eq_true q)
              rw [if_neg ec, hgF, zAdd_id (by omega) (by omega)]
              omega
          rw [this]
          rfl
        · by_cases e : S = F
          · subst e
            rw [gUz_at]
            have : (popF (S : Int)).toNat = i + 1 := by omega
            rw [this]
          · exact hwS _ S (by omega) hp
    · have himI : ¬ (i : Int) < (m : Int) := by omega
      refine WW_if (PE_cm (PE_lI rfl) (PE_fI rfl (PE_lR rfl) k_294)) (fun hb => ?_) (fun _ => WW_sk (LQ_n ⟨rfl, F + 1, some (vI (i : Int)), z5, z6, gUz w F 0, rfl, ?_, rfl, rfl, fun S hS hp => ?_⟩))
      · have := of_decide_eq_true hb
        rw [h00] at this
        exact absurd this himI
      · have hgF : gT F = 0 := by
          rw [hgT]
          refine if_neg (fun q => ?_)
          have := of_decide_eq_true q
          omega
        rw [hgs, hgF, Nat.add_zero]
        rfl
      · by_cases e : S = F
        · subst e
          omega
        · exact hwS _ S (by omega) hp
  · rintro _ c _ ⟨F, z4, z5, z6, w, hj, rfl, rfl, rfl, hw⟩
    have hF : F = 2 ^ P := by omega
    subst hF
    rw [htot]
    exact SQ_n (WW_rt (PE_lI rfl) ⟨_, rfl, rfl, hq w⟩)
end CU
