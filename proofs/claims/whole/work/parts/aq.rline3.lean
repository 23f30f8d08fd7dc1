/-! THE REFERENCE'S READER: person, all lines -/
def pA (t : Int → Int) (N : Int) (G : oV) (s : Int × Int) : Int × Int := bgS t N G s (G 4 0) 7
def pB0 (t : Int → Int) (N : Int) (G : oV) (s : Int × Int) : Int × Int := if nameB t N (pA t N G s) = true then pA t N G s else flw t N (pA t N G s) 1
def pB (t : Int → Int) (N : Int) (G : oV) (s : Int × Int) : Int × Int := if (pB0 t N G s).1 = 0 ∧ ¬ fdF G (wdF t N (pB0 t N G s).2) = -1 then flw t N (pB0 t N G s) 3 else pB0 t N G s
def pC (t : Int → Int) (N : Int) (G : oV) (s : Int × Int) : Int × Int := gOn t N (pB t N G s)
def kiF (t : Int → Int) (N : Int) (s : Int × Int) : Int := if isW t N s (wK 36) = true then 0 else if isW t N s (wK 37) = true then 1 else if isW t N s (wK 38) = true then 2 else if isW t N s (wK 39) = true then 3 else -1
def pD (t : Int → Int) (N : Int) (G : oV) (s : Int × Int) : Int × Int := gOn t N (if kiF t N (pC t N G s) = -1 then flw t N (pC t N G s) 1 else pC t N G s)
def pE (t : Int → Int) (N : Int) (G : oV) (s : Int × Int) : Int × Int := nds t N (pD t N G s) (wK 40)
def hbF (t : Int → Int) (N : Int) (s : Int × Int) : Int := if isW t N s (wK 41) = true then 0 else if isW t N s (wK 42) = true then 1 else if isW t N s (wK 43) = true then 2 else -1
def pF (t : Int → Int) (N : Int) (G : oV) (s : Int × Int) : Int × Int := gOn t N (if hbF t N (pE t N G s) = -1 then flw t N (pE t N G s) 1 else pE t N G s)
def pG (t : Int → Int) (N : Int) (G : oV) (s : Int × Int) : Int × Int := nds t N (pF t N G s) (wK 44)
def pH (t : Int → Int) (N : Int) (G : oV) (s : Int × Int) : Int × Int := if ¬ ((pG t N G s).1 = 0 ∧ kdF t N (pG t N G s).2 = 2) then flw t N (pG t N G s) 1 else pG t N G s
def lokB (t : Int → Int) (N : Int) (G : oV) (q k : Int) : Bool := (decide (0 ≤ t (stF t N q + k) - 97) && decide (t (stF t N q + k) - 97 ≤ G 2 0 - 1)) && !(anyB k.toNat (fun i => decide (t (stF t N q + i) = t (stF t N q + k))))
def pI (t : Int → Int) (N : Int) (G : oV) (s : Int × Int) : Int × Int := if (pH t N G s).1 = 0 ∧ anyB (lnF t N (pH t N G s).2) (fun k => !(lokB t N G (pH t N G s).2 k)) = true then flw t N (pH t N G s) 7 else pH t N G s
def pJ (t : Int → Int) (N : Int) (G : oV) (s : Int × Int) : Int × Int := gOn t N (pI t N G s)
def pK (t : Int → Int) (N : Int) (G : oV) (s : Int × Int) : Int × Int := rdS t N (nds t N (pJ t N G s) (wK 45)) 3 30
def pL (t : Int → Int) (N : Int) (G : oV) (s : Int × Int) : Int × Int := rdS t N (nds t N (pK t N G s) (wK 46)) 1 9
def pM (t : Int → Int) (N : Int) (G : oV) (s : Int × Int) : Int × Int := nds t N (pL t N G s) (wK 47)
def pN (t : Int → Int) (N : Int) (G : oV) (s : Int × Int) : Int × Int := gOn t N (if isW t N (pM t N G s) (wK 48) = false ∧ isW t N (pM t N G s) (wK 49) = false then flw t N (pM t N G s) 1 else pM t N G s)
def lkW (t : Int → Int) (N : Int) (G : oV) (q : Int) (n : Nat) : Int → Int := it (fun k f => gUz f (6 * G 4 0 + k) (t (stF t N q + k) - 97)) n (G 12)
def pZ (t : Int → Int) (N : Int) (G : oV) (s : Int × Int) : oV := sF (sF (sF (sF (sF (sF (sF (sF (sF G 12 (lkW t N G (pH t N G s).2 (lnF t N (pH t N G s).2))) 8 (gUz (G 8) (G 4 0) (wdF t N (pB t N G s).2))) 9 (gUz (G 9) (G 4 0) (kiF t N (pC t N G s)))) 10 (gUz (G 10) (G 4 0) (hbF t N (pE t N G s)))) 11 (gUz (G 11) (G 4 0) (lnF t N (pH t N G s).2))) 13 (gUz (G 13) (G 4 0) (bnV t N (nds t N (pJ t N G s) (wK 45)) 3 30))) 14 (gUz (G 14) (G 4 0) (bnV t N (nds t N (pK t N G s) (wK 46)) 1 9))) 18 (gUz (G 18) (G 4 0) (if isW t N (pM t N G s) (wK 48) = true then 1 else 0))) 4 (fun _ => G 4 0 + 1)
section RP
variable {c : cT} {V : Mem} {r : Nat} {R : Option gAV → cT → Mem → Prop} {t : Int → Int} {N : Int} {s : Int × Int}
/-- what is known where a person went well -/
theorem pN_k {G : oV} (h : (pN t N G s).1 = 0) : (pM t N G s).1 = 0 ∧ (pL t N G s).1 = 0 ∧ (pK t N G s).1 = 0 ∧ (pJ t N G s).1 = 0 ∧ (pI t N G s).1 = 0 ∧ pI t N G s = pH t N G s ∧ (pH t N G s).1 = 0 ∧ pH t N G s = pG t N G s ∧ kdF t N (pH t N G s).2 = 2 ∧ (pG t N G s).1 = 0 ∧ (pF t N G s).1 = 0 ∧ (pE t N G s).1 = 0 ∧ (pD t N G s).1 = 0 ∧ (pC t N G s).1 = 0 ∧ (pB t N G s).1 = 0 ∧ pB t N G s = pA t N G s ∧ nameB t N (pA t N G s) = true ∧ fdF G (wdF t N (pA t N G s).2) = -1 ∧ (pA t N G s).1 = 0 ∧ ¬ G 4 0 = 7 ∧ ¬ kiF t N (pC t N G s) = -1 ∧ ¬ hbF t N (pE t N G s) = -1 := by
  have hM : (pM t N G s).1 = 0 := by
    unfold pN at h
    rw [gOn_1] at h
    by_cases z : isW t N (pM t N G s) (wK 48) = false ∧ isW t N (pM t N G s) (wK 49) = false
    · rw [if_pos z] at h; exact absurd h (flw_1 (by decide))
    · rw [if_neg z] at h; exact h
  have hL := (nds_k hM).1.1
  have hK := (nds_k (rdS_k hL).1).1.1
  have hJ := (nds_k (rdS_k hK).1).1.1
  have hI : (pI t N G s).1 = 0 := by unfold pJ at hJ; rw [gOn_1] at hJ; exact hJ
  have eI : pI t N G s = pH t N G s ∧ (pH t N G s).1 = 0 := by
    unfold pI at hI ⊢
    by_cases z : (pH t N G s).1 = 0 ∧ anyB (lnF t N (pH t N G s).2) (fun k => !(lokB t N G (pH t N G s).2 k)) = true
    · rw [if_pos z] at hI; exact absurd hI (flw_1 (by decide))
    · rw [if_neg z] at hI ⊢; exact ⟨rfl, hI⟩
  have eH : pH t N G s = pG t N G s ∧ (pG t N G s).1 = 0 ∧ kdF t N (pG t N G s).2 = 2 := by
    have := eI.2
    unfold pH at this ⊢
    by_cases z : ¬ ((pG t N G s).1 = 0 ∧ kdF t N (pG t N G s).2 = 2)
    · rw [if_pos z] at this; exact absurd this (flw_1 (by decide))
    · rw [if_neg z]; exact ⟨rfl, Classical.not_not.mp z⟩
  have hF := (nds_k eH.2.1).1.1
  have hE : (pE t N G s).1 = 0 ∧ ¬ hbF t N (pE t N G s) = -1 := by
    unfold pF at hF
    rw [gOn_1] at hF
    by_cases z : hbF t N (pE t N G s) = -1
    · rw [if_pos z] at hF; exact absurd hF (flw_1 (by decide))
    · rw [if_neg z] at hF; exact ⟨hF, z⟩
  have hDd := (nds_k hE.1).1.1
  have hC : (pC t N G s).1 = 0 ∧ ¬ kiF t N (pC t N G s) = -1 := by
    unfold pD at hDd
    rw [gOn_1] at hDd
    by_cases z : kiF t N (pC t N G s) = -1
    · rw [if_pos z] at hDd; exact absurd hDd (flw_1 (by decide))
    · rw [if_neg z] at hDd; exact ⟨hDd, z⟩
  have hB : (pB t N G s).1 = 0 := by
    have := hC.1
    unfold pC at this
    rw [gOn_1] at this
    exact this
  have eB : pB t N G s = pB0 t N G s ∧ (pB0 t N G s).1 = 0 ∧ fdF G (wdF t N (pB0 t N G s).2) = -1 := by
    unfold pB at hB ⊢
    by_cases z : (pB0 t N G s).1 = 0 ∧ ¬ fdF G (wdF t N (pB0 t N G s).2) = -1
    · rw [if_pos z] at hB; exact absurd hB (flw_1 (by decide))
    · rw [if_neg z] at hB ⊢
      refine ⟨rfl, hB, ?_⟩
      by_cases y : fdF G (wdF t N (pB0 t N G s).2) = -1
      · exact y
      · exact absurd ⟨hB, y⟩ z
  have eB0 : pB0 t N G s = pA t N G s ∧ nameB t N (pA t N G s) = true := by
    have := eB.2.1
    unfold pB0 at this ⊢
    by_cases z : nameB t N (pA t N G s) = true
    · rw [if_pos z]; exact ⟨rfl, z⟩
    · rw [if_neg z] at this; exact absurd this (flw_1 (by decide))
  have hA := (nameB_k eB0.2).1
  have h7 := (bgS_k hA).2.1
  refine ⟨hM, hL, hK, hJ, hI, eI.1, eI.2, eH.1, by rw [eH.1]; exact eH.2.2, eH.2.1, hF, hE.1, hDd, hC.1, hB, eB.1.trans eB0.1, eB0.2, by rw [← eB0.1]; exact eB.2.2, hA, h7, hC.2, hE.2⟩
theorem pH_k {G : oV} (h : (pH t N G s).1 = 0) : ¬ G 4 0 = 7 := by
  have eH : (pG t N G s).1 = 0 := by
    unfold pH at h
    by_cases z : ¬ ((pG t N G s).1 = 0 ∧ kdF t N (pG t N G s).2 = 2)
    · rw [if_pos z] at h; exact absurd h (flw_1 (by decide))
    · exact (Classical.not_not.mp z).1
  have hF := (nds_k eH).1.1
  have hE : (pE t N G s).1 = 0 := by
    unfold pF at hF
    rw [gOn_1] at hF
    by_cases z : hbF t N (pE t N G s) = -1
    · rw [if_pos z] at hF; exact absurd hF (flw_1 (by decide))
    · rw [if_neg z] at hF; exact hF
  have hDd := (nds_k hE).1.1
  have hC : (pC t N G s).1 = 0 := by
    unfold pD at hDd
    rw [gOn_1] at hDd
    by_cases z : kiF t N (pC t N G s) = -1
    · rw [if_pos z] at hDd; exact absurd hDd (flw_1 (by decide))
    · rw [if_neg z] at hDd; exact hDd
  have hB : (pB t N G s).1 = 0 := by
    unfold pC at hC
    rw [gOn_1] at hC
    exact hC
  have eB : (pB0 t N G s).1 = 0 := by
    unfold pB at hB
    by_cases z : (pB0 t N G s).1 = 0 ∧ ¬ fdF G (wdF t N (pB0 t N G s).2) = -1
    · exact z.1
    · rw [if_neg z] at hB; exact hB
  have hA : (pA t N G s).1 = 0 := by
    unfold pB0 at eB
    by_cases z : nameB t N (pA t N G s) = true
    · rw [if_pos z] at eB; exact eB
    · rw [if_neg z] at eB; exact absurd eB (flw_1 (by decide))
  exact (bgS_k hA).2.1
theorem cc_198 (hr : RD c V r) (ht : TX t N (V 305 5)) (hg : GQ (V r)) (hs : RS t N (V 305) s) (hk : s.1 = 0 → kdF t N s.2 = 2) (hq : ∀ X Z, FrT (V 305) X → RS t N X (pN t N (V r) s) → ((pN t N (V r) s).1 = 0 → Z = pZ t N (V r) s) → R none c (MR V r X Z)) : CC 12 198 [vR (some 305)] c V R := by
  have h5 := hr.2.2
  obtain ⟨g0, g1, g2, g4, -⟩ := id hg
  refine CC_of mt_198 gb_198 (by decide) (by decide) (rcb_o k_305) (Nat.le_of_ble_eq_true rfl) fun n dd hn hd => ?_
  show WW (bX13_readPerson (gOr n dd)) n [some (vR (some (305))), none, none, none, none, none, none, none, none, none] _ _ _
  unfold bX13_readPerson
  have hn0 : 1000000000 ≤ n := hn
  refine WW_eq (MR_id h5).symm ?_
  refine WW_se (WW_se (rl_193 (b := 7) hr ht hn (by omega) rfl (rl_G hr FrT.rf rfl rfl) FrT.rf hs (fun q => by have := hk q; omega) fun X1 hf1 h1 => SQ_n ?_))
  have h1 : RS t N X1 (pA t N (V r) s) := h1
  refine WW_se (rl_if (by decide) (PE_not (rl_n hn (by omega) rfl h1)) hn (by omega) rfl hf1 h1 fun X2 hf2 h2 => SQ_n ?_)
  have e2 : (if (!(nameB t N (pA t N (V r) s))) = true then flw t N (pA t N (V r) s) 1 else pA t N (V r) s) = pB0 t N (V r) s := by
    unfold pB0
    cases nameB t N (pA t N (V r) s) <;> rfl
  rw [e2] at h2
  have h17 : (pB0 t N (V r) s).1 = 0 → X2 17 0 = wdF t N (pB0 t N (V r) s).2 ∧ kdF t N (pB0 t N (V r) s).2 = 2 := fun q => by
    have kk : kdF t N (pB0 t N (V r) s).2 = 2 := by
      unfold pB0 at q ⊢
      by_cases z : nameB t N (pA t N (V r) s) = true
      · rw [if_pos z]; exact (nameB_k z).2
      · rw [if_neg z] at q; exact absurd q (flw_1 (by decide))
    exact ⟨((h2.2.1 q).2.2.2.2.2.2.2.2 kk).2.1, kk⟩
  have pf := pc_165 (c := c) (V := MR V r X2 (V r)) (w := X2 17 0) hr.2.1 (by rw [MR_r h5]; exact g4.1) (by rw [MR_r h5]; exact g4.2)
  rw [MR_r h5] at pf
  have p17 : PE (fL 13 17 (lR 0)) [some (vR (some 305)), none, none, none, none, none, none, none, none, none] c (MR V r X2 (V r)) (X2 17 0) := by
    have := PE_fL (ci := 13) (k := 17) (c := c) (V := MR V r X2 (V r)) (L := [some (vR (some 305)), none, none, none, none, none, none, none, none, none]) rfl (PE_lR (i := 0) rfl) k_305
    rwa [MR_5] at this
  refine WW_se (rl_if (by decide) (PE_cm (op := .ne) (PE_cI (PE_aCR (rl_g hr hf2 rfl) (PE_aCL p17 PE_a0)) hn pf (by omega)) PE_kI) hn (by omega) rfl hf2 h2 fun X3 hf3 h3 => SQ_n ?_)
  have e3 : RS t N X3 (pB t N (V r) s) := by
    unfold pB
    by_cases z : (pB0 t N (V r) s).1 = 0
    · rw [(h17 z).1] at h3
      simp only [z, true_and]
      have : (if cmB ClassFile.Cond.ne (fdF (V r) (wdF t N (pB0 t N (V r) s).2)) (-1) = true then flw t N (pB0 t N (V r) s) 3 else pB0 t N (V r) s) = if ¬ fdF (V r) (wdF t N (pB0 t N (V r) s).2) = -1 then flw t N (pB0 t N (V r) s) 3 else pB0 t N (V r) s := by simp [cmB]
      rw [this] at h3
      exact h3
    · rw [if_neg (fun y => z y.1)]
      have ef : flw t N (pB0 t N (V r) s) 3 = pB0 t N (V r) s := by unfold flw; rw [if_neg z]
      rw [ef, ite_self] at h3
      exact h3
  obtain ⟨nm, hnm⟩ : ∃ nm, nm = X3 17 0 := ⟨_, rfl⟩
  have hnm2 : (pB t N (V r) s).1 = 0 → nm = wdF t N (pB t N (V r) s).2 ∧ kdF t N (pB t N (V r) s).2 = 2 := fun q => by
    have kk : kdF t N (pB t N (V r) s).2 = 2 := by
      unfold pB at q ⊢
      by_cases z : (pB0 t N (V r) s).1 = 0 ∧ ¬ fdF (V r) (wdF t N (pB0 t N (V r) s).2) = -1
      · rw [if_pos z] at q; exact absurd q (flw_1 (by decide))
      · rw [if_neg z] at q ⊢; exact (h17 q).2
    exact ⟨by rw [hnm]; exact ((e3.2.1 q).2.2.2.2.2.2.2.2 kk).2.1, kk⟩
  have p17b : PE (fL 13 17 (lR 0)) [some (vR (some 305)), none, none, none, none, none, none, none, none, none] c (MR V r X3 (V r)) nm := by
    have := PE_fL (ci := 13) (k := 17) (c := c) (V := MR V r X3 (V r)) (L := [some (vR (some 305)), none, none, none, none, none, none, none, none, none]) rfl (PE_lR (i := 0) rfl) k_305
    rwa [MR_5, ← hnm] at this
  refine WW_se (WW_stL p17b (SQ_n ?_))
  refine WW_se (rl_183 hr ht hn (by omega) rfl hf3 e3 (fun q => by rw [(hnm2 q).2]; decide) fun X4 hf4 h4 => SQ_n ?_)
  have h4 : RS t N X4 (pC t N (V r) s) := h4
  refine WW_se (WW_st (PE_ite (rl_w (by decide) hn (by omega) rfl h4) (fun _ => PE_kI) (fun _ => PE_ite (rl_w (by decide) hn (by omega) rfl h4) (fun _ => PE_kI) (fun _ => PE_ite (rl_w (by decide) hn (by omega) rfl h4) (fun _ => PE_kI) (fun _ => PE_ite (rl_w (by decide) hn (by omega) rfl h4) (fun _ => PE_kI) (fun _ => PE_kI))))) (SQ_n ?_))
  obtain ⟨ki, hki⟩ : ∃ ki, ki = kiF t N (pC t N (V r) s) := ⟨_, rfl⟩
  have eki : (if isW t N (pC t N (V r) s) (wK 36) = true then (0 : Int) else if isW t N (pC t N (V r) s) (wK 37) = true then 1 else if isW t N (pC t N (V r) s) (wK 38) = true then 2 else if isW t N (pC t N (V r) s) (wK 39) = true then 3 else -1) = ki := hki.symm
  rw [eki]
  refine WW_se (rl_if (B := decide (ki = -1)) (by decide) (PE_cm (PE_lI rfl) PE_kI) hn (by omega) rfl hf4 h4 fun X5 hf5 h5' => SQ_n ?_)
  simp only [decide_eq_true_eq] at h5'
  have kki : ki ≠ -1 → kdF t N (pC t N (V r) s).2 = 2 := fun q => by
    rw [hki] at q
    unfold kiF at q
    by_cases z1 : isW t N (pC t N (V r) s) (wK 36) = true
    · exact (isW_k z1).2.1
    · by_cases z2 : isW t N (pC t N (V r) s) (wK 37) = true
      · exact (isW_k z2).2.1
      · by_cases z3 : isW t N (pC t N (V r) s) (wK 38) = true
        · exact (isW_k z3).2.1
        · by_cases z4 : isW t N (pC t N (V r) s) (wK 39) = true
          · exact (isW_k z4).2.1
          · rw [if_neg z1, if_neg z2, if_neg z3, if_neg z4] at q
            exact absurd rfl q
  refine WW_se (rl_183 hr ht hn (by omega) rfl hf5 h5' (fun q => ?_) fun X6 hf6 h6 => SQ_n ?_)
  · by_cases z : ki = -1
    · rw [if_pos z] at q; exact absurd q (flw_1 (by decide))
    · rw [if_neg z]; rw [kki z]; decide
  have h6 : RS t N X6 (pD t N (V r) s) := by unfold pD; rw [← hki]; exact h6
  refine WW_se (rl_187 (by decide) ht hn (by omega) rfl hf6 h6 fun X7 hf7 h7 => SQ_n ?_)
  have h7 : RS t N X7 (pE t N (V r) s) := h7
  refine WW_se (WW_st (PE_ite (rl_w (by decide) hn (by omega) rfl h7) (fun _ => PE_kI) (fun _ => PE_ite (rl_w (by decide) hn (by omega) rfl h7) (fun _ => PE_kI) (fun _ => PE_ite (rl_w (by decide) hn (by omega) rfl h7) (fun _ => PE_kI) (fun _ => PE_kI)))) (SQ_n ?_))
  obtain ⟨hb, hhb⟩ : ∃ hb, hb = hbF t N (pE t N (V r) s) := ⟨_, rfl⟩
  have ehb : (if isW t N (pE t N (V r) s) (wK 41) = true then (0 : Int) else if isW t N (pE t N (V r) s) (wK 42) = true then 1 else if isW t N (pE t N (V r) s) (wK 43) = true then 2 else -1) = hb := hhb.symm
  rw [ehb]
  refine WW_se (rl_if (B := decide (hb = -1)) (by decide) (PE_cm (PE_lI rfl) PE_kI) hn (by omega) rfl hf7 h7 fun X8 hf8 h8 => SQ_n ?_)
  simp only [decide_eq_true_eq] at h8
  have khb : hb ≠ -1 → kdF t N (pE t N (V r) s).2 = 2 := fun q => by
    rw [hhb] at q
    unfold hbF at q
    by_cases z1 : isW t N (pE t N (V r) s) (wK 41) = true
    · exact (isW_k z1).2.1
    · by_cases z2 : isW t N (pE t N (V r) s) (wK 42) = true
      · exact (isW_k z2).2.1
      · by_cases z3 : isW t N (pE t N (V r) s) (wK 43) = true
        · exact (isW_k z3).2.1
        · rw [if_neg z1, if_neg z2, if_neg z3] at q
          exact absurd rfl q
  refine WW_se (rl_183 hr ht hn (by omega) rfl hf8 h8 (fun q => ?_) fun X9 hf9 h9 => SQ_n ?_)
  · by_cases z : hb = -1
    · rw [if_pos z] at q; exact absurd q (flw_1 (by decide))
    · rw [if_neg z]; rw [khb z]; decide
  have h9 : RS t N X9 (pF t N (V r) s) := by unfold pF; rw [← hhb]; exact h9
  refine WW_se (rl_187 (by decide) ht hn (by omega) rfl hf9 h9 fun Xa hfa ha => SQ_n ?_)
  have ha : RS t N Xa (pG t N (V r) s) := ha
  refine WW_se (rl_if (by decide) (rl_nw rfl ha) hn (by omega) rfl hfa ha fun Xb hfb hb' => SQ_n ?_)
  simp only [decide_eq_true_eq] at hb'
  have hb' : RS t N Xb (pH t N (V r) s) := hb'
  obtain ⟨w, hw⟩ : ∃ w, w = pH t N (V r) s := ⟨_, rfl⟩
  rw [← hw] at hb'
  have kw : w.1 = 0 → kdF t N w.2 = 2 := fun q => by
    rw [hw] at q ⊢
    unfold pH at q ⊢
    by_cases z : ¬ ((pG t N (V r) s).1 = 0 ∧ kdF t N (pG t N (V r) s).2 = 2)
    · rw [if_pos z] at q; exact absurd q (flw_1 (by decide))
    · rw [if_neg z]; exact (Classical.not_not.mp z).2
  -- who it is, how many letters
  obtain ⟨p, hp⟩ : ∃ p, p = if V r 4 0 < 7 then V r 4 0 else 0 := ⟨_, rfl⟩
  have hp7 : 0 ≤ p ∧ p < 7 := by rw [hp]; split <;> omega
  refine WW_se (WW_st (PE_ite (PE_cm (op := .lt) (rl_G (k := 4) hr hfb rfl rfl) PE_kI) (fun _ => rl_G (k := 4) hr hfb rfl rfl) (fun _ => PE_kI)) (SQ_n ?_))
  have ep : (if cmB ClassFile.Cond.lt (V r 4 0) 7 = true then V r 4 0 else 0) = p := by rw [hp]; simp [cmB]
  rw [ep]
  obtain ⟨mn, hmn⟩ : ∃ mn, mn = Xb 13 0 := ⟨_, rfl⟩
  have hmn2 : w.1 = 0 → mn = (lnF t N w.2 : Int) := fun q => by rw [hmn]; exact ((hb'.2.1 q).2.2.2.2.2.2.2.2 (kw q)).1
  have p13 := rl_f (c := c) (V := V) (r := r) (X := Xb) (Z := V r) (k := 13) (L := [some (vR (some 305)), some (vL nm), none, some (vI ki), some (vI hb), some (vI p), none, none, none, none]) rfl rfl
  rw [← hmn] at p13
  refine WW_se (WW_st p13 (SQ_n ?_))
  have eI : pI t N (V r) s = if w.1 = 0 ∧ anyB (lnF t N w.2) (fun k => !(lokB t N (V r) w.2 k)) = true then flw t N w 7 else w := by unfold pI; rw [← hw]
  refine WW_se (WW_se (WW_st PE_kI (SQ_n ?_)))
  have hp4 : w.1 = 0 → p = V r 4 0 := fun q => by
    rw [hw] at q
    have := pH_k q
    rw [hp]
    split <;> omega
  -- the letters
  refine WW_mono (Q' := fun ex L1 c1 V1 => ex = none ∧ ∃ (X Z : oV) (z7 z8 z9 : Option gAV), L1 = [some (vR (some 305)), some (vL nm), none, some (vI ki), some (vI hb), some (vI p), some (vI mn), z7, z8, z9] ∧ c1 = c ∧ V1 = MR V r X Z ∧ FrT (V 305) X ∧ RS t N X (pI t N (V r) s) ∧ ((pI t N (V r) s).1 = 0 → Z = sF (V r) 12 (lkW t N (V r) w.2 (lnF t N w.2)))) ?_ ?_
  · obtain ⟨m0, hm0, hI0⟩ : ∃ m0 : Nat, m0 ≤ 20 ∧ ((w.1 = 0 ∧ (0 : Int) ≤ lnF t N w.2 ∧ m0 = ((lnF t N w.2 : Int) - 0).toNat + 1 ∧ RS t N Xb w ∧ V r = sF (V r) 12 (lkW t N (V r) w.2 (0 : Int).toNat) ∧ ∀ j : Int, 0 ≤ j → j < 0 → lokB t N (V r) w.2 j = true) ∨ (m0 = 0 ∧ RS t N Xb (pI t N (V r) s) ∧ ¬ (pI t N (V r) s).1 = 0)) := by
      by_cases z : w.1 = 0
      · have := (kd_2 (hb'.2.1 z).1.1 (hb'.2.1 z).1.2 (kw z)).2.1
        refine ⟨((lnF t N w.2 : Int) - 0).toNat + 1, by omega, Or.inl ⟨z, by omega, rfl, hb', ?_, fun j j0 j1 => by omega⟩⟩
        show V r = sF (V r) 12 (V r 12)
        funext k
        unfold sF
        split
        · rename_i e; rw [e]
        · rfl
      · have : pI t N (V r) s = w := by rw [eI, if_neg (fun y => z y.1)]
        exact ⟨0, by omega, Or.inr ⟨rfl, by rw [this]; exact hb', by rw [this]; exact z⟩⟩
    refine WW_wh 900000000 (fun m L1 c1 V1 => ∃ (k : Int) (X Z : oV) (z8 z9 : Option gAV), 0 ≤ k ∧ k ≤ 8 ∧ L1 = [some (vR (some 305)), some (vL nm), none, some (vI ki), some (vI hb), some (vI p), some (vI mn), some (vI k), z8, z9] ∧ c1 = c ∧ V1 = MR V r X Z ∧ FrT (V 305) X ∧ ((w.1 = 0 ∧ k ≤ lnF t N w.2 ∧ m = ((lnF t N w.2 : Int) - k).toNat + 1 ∧ RS t N X w ∧ Z = sF (V r) 12 (lkW t N (V r) w.2 k.toNat) ∧ ∀ j : Int, 0 ≤ j → j < k → lokB t N (V r) w.2 j = true) ∨ (m = 0 ∧ RS t N X (pI t N (V r) s) ∧ ¬ (pI t N (V r) s).1 = 0))) ?_ m0 _ _ _ _ (by omega) ⟨0, Xb, V r, none, none, by omega, by omega, rfl, rfl, rfl, hfb, hI0⟩
    rintro m k1 _ c _ hk1 ⟨k, X, Z, z8, z9, k0, k8, rfl, rfl, rfl, hf, hcase⟩
    rcases hcase with ⟨hw0, kl, rfl, hX, rfl, hok⟩ | ⟨rfl, hX, hov⟩
    · have k2 := kw hw0
      obtain ⟨⟨q0, q1⟩, -, -, -, -, -, -, -, hw2⟩ := hX.2.1 hw0
      obtain ⟨-, hl8, -, hlet⟩ := kd_2 q0 q1 k2
      have hp4' := hp4 hw0
      obtain ⟨h13, -, h16⟩ := hw2 k2
      have p13 := rl_f (c := c) (V := V) (r := r) (X := X) (Z := sF (V r) 12 (lkW t N (V r) w.2 k.toNat)) (k := 13) (L := [some (vR (some 305)), some (vL nm), none, some (vI ki), some (vI hb), some (vI p), some (vI mn), some (vI k), z8, z9]) rfl rfl
      rw [h13] at p13
      have hcond := PE_and (rl_no (c := c) (V := V) (r := r) (Z := sF (V r) 12 (lkW t N (V r) w.2 k.toNat)) (L := [some (vR (some 305)), some (vL nm), none, some (vI ki), some (vI hb), some (vI p), some (vI mn), some (vI k), z8, z9]) rfl hX) (fun _ => PE_cm (op := .lt) (PE_lI (i := 7) rfl) p13)
      rw [decide_eq_true hw0, Bool.true_and] at hcond
      by_cases hgo : k < lnF t N w.2
      · have et : cmB ClassFile.Cond.lt k (lnF t N w.2) = true := decide_eq_true hgo
        rw [et] at hcond
        refine EE_pe hcond ⟨fun _ => ?_, fun q => by cases q⟩
        have p16 : ∀ {L : gLo} {e : gIE} {j : Int}, L[0]? = some (some (vR (some 305))) → 0 ≤ j → j < lnF t N w.2 → PE e L c (MR V r X (sF (V r) 12 (lkW t N (V r) w.2 k.toNat))) j → PE (aI 0 (fR 13 16 (lR 0)) e) L c (MR V r X (sF (V r) 12 (lkW t N (V r) w.2 k.toNat))) (t (stF t N w.2 + j)) := fun {L e j} hl j0 j1 he => by
          have := PE_aF (ty := 0) (ci := 13) (k := 16) (c := c) (V := MR V r X (sF (V r) 12 (lkW t N (V r) w.2 k.toNat))) (L := L) rfl (by decide) (PE_lR (i := 0) hl) k_305 he j0 (by omega)
          rwa [MR_5, h16 j j0 j1] at this
        have pc2 : ∀ {L : gLo}, L[0]? = some (some (vR (some 305))) → PE (o2 zSub (fI 12 2 (fR 13 4 (lR 0))) (kI 1)) L c (MR V r X (sF (V r) 12 (lkW t N (V r) w.2 k.toNat))) (V r 2 0 - 1) := fun {L} hl => by
          have := PE_o2 (f := zSub) (rl_G (V := V) (Z := sF (V r) 12 (lkW t N (V r) w.2 k.toNat)) (k := 2) (L := L) hr hf hl rfl) (PE_kI (z := 1))
          rwa [sF_ne (by decide), zSub_id (by omega) (by omega)] at this
        have psub : ∀ {L : gLo} {e : gIE}, L[0]? = some (some (vR (some 305))) → PE e L c (MR V r X (sF (V r) 12 (lkW t N (V r) w.2 k.toNat))) k → PE (o2 zSub (aI 0 (fR 13 16 (lR 0)) e) (kI 97)) L c (MR V r X (sF (V r) 12 (lkW t N (V r) w.2 k.toNat))) (t (stF t N w.2 + k) - 97) := fun {L e} hl he => by
          have := PE_o2 (f := zSub) (p16 hl k0 hgo he) (PE_kI (z := 97))
          have h1 := hlet k k0 hgo
          rwa [zSub_id (by omega) (by omega)] at this
        obtain ⟨b0, hb0⟩ : ∃ b0, b0 = (decide (0 ≤ t (stF t N w.2 + k) - 97) && decide (t (stF t N w.2 + k) - 97 ≤ V r 2 0 - 1)) := ⟨_, rfl⟩
        refine WW_se (WW_stB (b := b0) (by rw [hb0]; exact PE_cB (PE_aCI (psub rfl (PE_lI (i := 7) rfl)) (PE_aCI PE_kI (PE_aCI (pc2 rfl) PE_a0))) hn (pc_176 (c := c)) (by omega)) (SQ_n ?_))
        refine WW_se (WW_se (WW_st PE_kI (SQ_n ?_)))
        have hIn : WW (whS (cmC .lt (lI 9) (lI 7)) (stB 8 (andC (lB 8) (cmC .ne (aI 0 (fR 13 16 (lR 0)) (lI 9)) (aI 0 (fR 13 16 (lR 0)) (lI 7))))) (inS 9 1)) k1 [some (vR (some 305)), some (vL nm), none, some (vI ki), some (vI hb), some (vI p), some (vI mn), some (vI k), some (vB b0), some (vI 0)] c (MR V r X (sF (V r) 12 (lkW t N (V r) w.2 k.toNat))) (fun ex L1 c1 V1 => ex = none ∧ L1 = [some (vR (some 305)), some (vL nm), none, some (vI ki), some (vI hb), some (vI p), some (vI mn), some (vI k), some (vB (lokB t N (V r) w.2 k)), some (vI k)] ∧ c1 = c ∧ V1 = MR V r X (sF (V r) 12 (lkW t N (V r) w.2 k.toNat))) := by
          refine WW_for 800000000 0 k (fun j L1 c1 V1 => L1 = [some (vR (some 305)), some (vL nm), none, some (vI ki), some (vI hb), some (vI p), some (vI mn), some (vI k), some (vB (b0 && !(anyB j.toNat (fun i => decide (t (stF t N w.2 + i) = t (stF t N w.2 + k)))))), some (vI j)] ∧ c1 = c ∧ V1 = MR V r X (sF (V r) 12 (lkW t N (V r) w.2 k.toNat))) (by omega) (by omega) (by omega) (by omega) ⟨by show _ = [some (vR (some 305)), some (vL nm), none, some (vI ki), some (vI hb), some (vI p), some (vI mn), some (vI k), some (vB (b0 && !false)), some (vI 0)]; rw [Bool.not_false, Bool.and_true], rfl, rfl⟩ ?_ ?_ ?_
          · rintro j _ c _ j0 j1 ⟨rfl, rfl, rfl⟩
            exact ⟨rfl, PE_lI rfl⟩
          · rintro j k2 _ c _ j0 j1 hk2 ⟨rfl, rfl, rfl⟩
            refine WW_stB (PE_and (PE_lB rfl) (fun _ => PE_cm (op := .ne) (p16 (j := j) rfl j0 (by omega) (PE_lI rfl)) (p16 (j := k) rfl k0 hgo (PE_lI rfl)))) (LQ_n ⟨rfl, ?_, rfl, rfl⟩)
            show gSet 9 (vI (j + 1)) [some (vR (some 305)), some (vL nm), none, some (vI ki), some (vI hb), some (vI p), some (vI mn), some (vI k), some (vB ((b0 && !(anyB j.toNat (fun i => decide (t (stF t N w.2 + i) = t (stF t N w.2 + k))))) && cmB ClassFile.Cond.ne (t (stF t N w.2 + j)) (t (stF t N w.2 + k)))), some (vI j)] = _
            have eb : ((b0 && !(anyB j.toNat (fun i => decide (t (stF t N w.2 + i) = t (stF t N w.2 + k))))) && cmB ClassFile.Cond.ne (t (stF t N w.2 + j)) (t (stF t N w.2 + k))) = (b0 && !(anyB (j + 1).toNat (fun i => decide (t (stF t N w.2 + i) = t (stF t N w.2 + k))))) := by
              rw [anyB_s j0]
              have : cmB ClassFile.Cond.ne (t (stF t N w.2 + j)) (t (stF t N w.2 + k)) = !(decide (t (stF t N w.2 + j) = t (stF t N w.2 + k))) := by simp [cmB]
              rw [this]
              generalize anyB j.toNat (fun i => decide (t (stF t N w.2 + i) = t (stF t N w.2 + k))) = u
              generalize decide (t (stF t N w.2 + j) = t (stF t N w.2 + k)) = v
              revert u v
              clear hb0
              revert b0
              decide
            rw [eb]
            rfl
          · rintro _ c _ ⟨rfl, rfl, rfl⟩
            refine ⟨rfl, ?_, rfl, rfl⟩
            unfold lokB
            rw [← hb0]
        refine WW_mono hIn ?_
        rintro _ _ c _ ⟨rfl, rfl, rfl, rfl⟩
        refine SQ_n ?_
        by_cases hlk : lokB t N (V r) w.2 k = true
        · refine WW_if (PE_lB (b := lokB t N (V r) w.2 k) rfl) (fun _ => ?_) (fun q => by rw [hlk] at q; cases q)
          have hL : ∀ j : Int, 0 ≤ j → j ≤ k → lokB t N (V r) w.2 j = true := fun j j0 j1 => by
            by_cases e : j = k
            · rw [e]; exact hlk
            · exact hok j j0 (by omega)
          have k6 : k < 6 := by
            refine pig (a := fun j => t (stF t N w.2 + j) - 97) (fun j j0 j1 => ?_) (fun i j i0 ij jk => ?_)
            · have := hL j j0 j1
              unfold lokB at this
              simp only [Bool.and_eq_true, decide_eq_true_eq] at this
              obtain ⟨⟨u1, u2⟩, -⟩ := this
              exact ⟨u1, by omega⟩
            · have := hL j (by omega) jk
              unfold lokB at this
              simp only [Bool.and_eq_true, Bool.not_eq_true'] at this
              intro e
              have hh : anyB j.toNat (fun i => decide (t (stF t N w.2 + i) = t (stF t N w.2 + j))) = true := anyB_iff.mpr ⟨i, i0, by omega, decide_eq_true (by omega)⟩
              rw [hh] at this
              exact absurd this.2 (by decide)
          have ei : zAdd (zMul 6 p) k = 6 * p + k := by rw [zMul_id (by omega) (by omega), zAdd_id (by omega) (by omega)]
          refine WW_asF (ty := 0) (x := 6 * p + k) (z := t (stF t N w.2 + k) - 97) rfl (by decide) (rl_g hr hf rfl) hr.2.1 (by
            have := PE_o2 (f := zAdd) (PE_o2 (f := zMul) (PE_kI (z := 6)) (PE_lI (c := c) (V := MR V r X (sF (V r) 12 (lkW t N (V r) w.2 k.toNat))) (L := [some (vR (some 305)), some (vL nm), none, some (vI ki), some (vI hb), some (vI p), some (vI mn), some (vI k), some (vB (lokB t N (V r) w.2 k)), some (vI k)]) (i := 5) rfl)) (PE_lI (i := 7) rfl)
            rw [ei] at this
            exact this) (by omega) (by omega) (psub rfl (PE_lI rfl)) rfl (LQ_n (WW_in rfl ⟨rfl, ((lnF t N w.2 : Int) - (k + 1)).toNat + 1, by omega, k + 1, X, sF (V r) 12 (lkW t N (V r) w.2 (k + 1).toNat), some (vB (lokB t N (V r) w.2 k)), some (vI k), by omega, by omega, ?_, rfl, ?_, hf, Or.inl ⟨hw0, by omega, rfl, hX, rfl, fun j j0 j1 => hL j j0 (by omega)⟩⟩))
          · rw [zAdd_id (by omega) (by omega)]
            rfl
          · have nx : lkW t N (V r) w.2 (k + 1).toNat = gUz (lkW t N (V r) w.2 k.toNat) (6 * V r 4 0 + k) (t (stF t N w.2 + k) - 97) := it_s k0
            rw [MR_z h5, MR_r h5, sF_at, sF_sF, nx, hp4']
        · have hlf : lokB t N (V r) w.2 k = false := by simpa using hlk
          have eIf : pI t N (V r) s = flw t N w 7 := by
            rw [eI, if_pos ⟨hw0, anyB_iff.mpr ⟨k, k0, by omega, by rw [hlf]; rfl⟩⟩]
          refine WW_if (PE_lB (b := lokB t N (V r) w.2 k) rfl) (fun q => by rw [hlf] at q; cases q) (fun _ => ?_)
          refine rl_184 (by decide) hn (by omega) rfl hf hX fun X7 hf7 h7 => LQ_n (WW_in rfl ⟨rfl, 0, by omega, k + 1, X7, _, some (vB (lokB t N (V r) w.2 k)), some (vI k), by omega, by omega, ?_, rfl, rfl, hf7, Or.inr ⟨rfl, by rw [eIf]; exact h7, by rw [eIf]; exact flw_1 (by decide)⟩⟩)
          rw [zAdd_id (by omega) (by omega)]
          rfl
      · have et : cmB ClassFile.Cond.lt k (lnF t N w.2) = false := decide_eq_false hgo
        rw [et] at hcond
        have hkl : k = lnF t N w.2 := by omega
        have eIw : pI t N (V r) s = w := by
          rw [eI, if_neg]
          rintro ⟨-, q⟩
          obtain ⟨j, j0, j1, j2⟩ := anyB_iff.mp q
          rw [hok j j0 (by omega)] at j2
          cases j2
        refine EE_pe hcond ⟨(fun q => by cases q), fun _ => ⟨rfl, X, _, some (vI k), z8, z9, rfl, rfl, rfl, hf, by rw [eIw]; exact hX, fun _ => ?_⟩⟩
        have : k.toNat = lnF t N w.2 := by omega
        rw [this]
    · have hcond := PE_and (rl_no (c := c) (V := V) (r := r) (Z := Z) (L := [some (vR (some 305)), some (vL nm), none, some (vI ki), some (vI hb), some (vI p), some (vI mn), some (vI k), z8, z9]) rfl hX) (fun _ => PE_cm (op := .lt) (PE_lI (i := 7) rfl) (rl_f (k := 13) rfl rfl))
      rw [decide_eq_false hov, Bool.false_and] at hcond
      exact EE_pe hcond ⟨(fun q => by cases q), fun _ => ⟨rfl, X, Z, some (vI k), z8, z9, rfl, rfl, rfl, hf, hX, fun q => absurd q hov⟩⟩
  rintro _ _ c _ ⟨rfl, Xc, Z, z7, z8, z9, rfl, rfl, rfl, hfc, hc, hZ⟩
  refine SQ_n ?_
  have kI : (pI t N (V r) s).1 = 0 → kdF t N (pI t N (V r) s).2 ≠ 0 := fun q => by
    have : pI t N (V r) s = w ∧ w.1 = 0 := by
      rw [eI] at q ⊢
      by_cases y : w.1 = 0 ∧ anyB (lnF t N w.2) (fun k => !(lokB t N (V r) w.2 k)) = true
      · rw [if_pos y] at q; exact absurd q (flw_1 (by decide))
      · rw [if_neg y] at q ⊢
        exact ⟨rfl, q⟩
    rw [this.1, kw this.2]
    decide
  refine WW_se (rl_183 hr ht hn (by omega) rfl hfc hc kI fun Xd hfd hd => SQ_n ?_)
  have hd : RS t N Xd (pJ t N (V r) s) := hd
  refine WW_se (rl_191 (by decide) ht hn (by omega) rfl hfd hd fun Xe hfe he => SQ_n ?_)
  have he : RS t N Xe (pK t N (V r) s) := he
  obtain ⟨v3, hv3⟩ : ∃ v3, v3 = bnV t N (nds t N (pJ t N (V r) s) (wK 45)) 3 30 := ⟨_, rfl⟩
  rw [← hv3]
  refine WW_se (rl_191 (by decide) ht hn (by omega) rfl hfe he fun Xf hff hf' => SQ_n ?_)
  have hf' : RS t N Xf (pL t N (V r) s) := hf'
  obtain ⟨v4, hv4⟩ : ∃ v4, v4 = bnV t N (nds t N (pK t N (V r) s) (wK 46)) 1 9 := ⟨_, rfl⟩
  rw [← hv4]
  refine WW_se (rl_187 (by decide) ht hn (by omega) rfl hff hf' fun Xg hfg hg' => SQ_n ?_)
  have hg' : RS t N Xg (pM t N (V r) s) := hg'
  refine WW_se (WW_stB (rl_w (by decide) hn (by omega) rfl hg') (SQ_n ?_))
  obtain ⟨bb, hbb⟩ : ∃ bb, bb = isW t N (pM t N (V r) s) (wK 48) := ⟨_, rfl⟩
  rw [← hbb]
  have h49 := PE_and (PE_not (PE_lB (c := c) (V := MR V r Xg Z) (L := [some (vR (some 305)), some (vL nm), none, some (vI ki), some (vI hb), some (vI p), some (vI mn), some (vI v3), some (vI v4), some (vB bb)]) (i := 9) rfl)) (fun _ => PE_not (rl_w (i := 49) (by decide) hn (by omega : 7 ≤ dd) rfl hg'))
  refine WW_se (rl_if (by decide) h49 hn (by omega) rfl hfg hg' fun Xh hfh hh => SQ_n ?_)
  have e49 : (if ((!bb) && (!(isW t N (pM t N (V r) s) (wK 49)))) = true then flw t N (pM t N (V r) s) 1 else pM t N (V r) s) = (if isW t N (pM t N (V r) s) (wK 48) = false ∧ isW t N (pM t N (V r) s) (wK 49) = false then flw t N (pM t N (V r) s) 1 else pM t N (V r) s) := by
    rw [← hbb]
    cases bb <;> cases isW t N (pM t N (V r) s) (wK 49) <;> rfl
  rw [e49] at hh
  refine WW_se (rl_183 hr ht hn (by omega) rfl hfh hh (fun q => ?_) fun Xi hfi hi => SQ_n ?_)
  · by_cases y : isW t N (pM t N (V r) s) (wK 48) = false ∧ isW t N (pM t N (V r) s) (wK 49) = false
    · rw [if_pos y] at q; exact absurd q (flw_1 (by decide))
    · rw [if_neg y]
      by_cases y1 : isW t N (pM t N (V r) s) (wK 48) = true
      · rw [(isW_k y1).2.1]; decide
      · have y2 : isW t N (pM t N (V r) s) (wK 49) = true := by
          cases e : isW t N (pM t N (V r) s) (wK 49)
          · exact absurd ⟨by simpa using y1, e⟩ y
          · rfl
        rw [(isW_k y2).2.1]; decide
  have hi : RS t N Xi (pN t N (V r) s) := hi
  refine WW_se (WW_if (rl_ov rfl hi) (fun hb => WW_rtV (SQ_s (SQ_s ⟨_, rfl, rfl, hq Xi Z hfi hi fun q => absurd q (of_decide_eq_true hb)⟩))) (fun hbo => WW_sk (SQ_n ?_)))
  have hon : (pN t N (V r) s).1 = 0 := Classical.not_not.mp (of_decide_eq_false hbo)
  obtain ⟨-, -, -, -, kI0, -, kH0, -, -, -, -, -, -, -, kB0, -⟩ := pN_k hon
  have hZ' := hZ kI0
  rw [← hw] at kH0
  have hp4' := hp4 kH0
  rw [hp4'] at hp7
  have hnm' := (hnm2 kB0).1
  have hmn' := hmn2 kH0
  subst hZ'
  rw [hp4']
  refine WW_se (WW_asF (ty := 2) (z := nm) rfl (by decide) (rl_g hr hfi rfl) hr.2.1 (PE_lI rfl) hp7.1 hp7.2 (PE_lL rfl) rfl (SQ_n ?_))
  rw [MR_z h5, MR_r h5, sF_ne (show (8 : Nat) ≠ 12 by decide)]
  refine WW_se (WW_asF (ty := 0) (z := ki) rfl (by decide) (rl_g hr hfi rfl) hr.2.1 (PE_lI rfl) hp7.1 hp7.2 (PE_lI rfl) rfl (SQ_n ?_))
  rw [MR_z h5, MR_r h5, sF_ne (show (9 : Nat) ≠ 8 by decide), sF_ne (show (9 : Nat) ≠ 12 by decide)]
  refine WW_se (WW_asF (ty := 0) (z := hb) rfl (by decide) (rl_g hr hfi rfl) hr.2.1 (PE_lI rfl) hp7.1 hp7.2 (PE_lI rfl) rfl (SQ_n ?_))
  rw [MR_z h5, MR_r h5, sF_ne (show (10 : Nat) ≠ 9 by decide), sF_ne (show (10 : Nat) ≠ 8 by decide), sF_ne (show (10 : Nat) ≠ 12 by decide)]
  refine WW_se (WW_asF (ty := 0) (z := mn) rfl (by decide) (rl_g hr hfi rfl) hr.2.1 (PE_lI rfl) hp7.1 hp7.2 (PE_lI rfl) rfl (SQ_n ?_))
  rw [MR_z h5, MR_r h5, sF_ne (show (11 : Nat) ≠ 10 by decide), sF_ne (show (11 : Nat) ≠ 9 by decide), sF_ne (show (11 : Nat) ≠ 8 by decide), sF_ne (show (11 : Nat) ≠ 12 by decide)]
  refine WW_se (WW_asF (ty := 0) (z := v3) rfl (by decide) (rl_g hr hfi rfl) hr.2.1 (PE_lI rfl) hp7.1 hp7.2 (PE_lI rfl) rfl (SQ_n ?_))
  rw [MR_z h5, MR_r h5, sF_ne (show (13 : Nat) ≠ 11 by decide), sF_ne (show (13 : Nat) ≠ 10 by decide), sF_ne (show (13 : Nat) ≠ 9 by decide), sF_ne (show (13 : Nat) ≠ 8 by decide), sF_ne (show (13 : Nat) ≠ 12 by decide)]
  refine WW_se (WW_asF (ty := 0) (z := v4) rfl (by decide) (rl_g hr hfi rfl) hr.2.1 (PE_lI rfl) hp7.1 hp7.2 (PE_lI rfl) rfl (SQ_n ?_))
  rw [MR_z h5, MR_r h5, sF_ne (show (14 : Nat) ≠ 13 by decide), sF_ne (show (14 : Nat) ≠ 11 by decide), sF_ne (show (14 : Nat) ≠ 10 by decide), sF_ne (show (14 : Nat) ≠ 9 by decide), sF_ne (show (14 : Nat) ≠ 8 by decide), sF_ne (show (14 : Nat) ≠ 12 by decide)]
  refine WW_se (WW_asB rfl (rl_g hr hfi rfl) hr.2.1 (PE_lI rfl) hp7.1 hp7.2 (PE_lB (b := bb) rfl) (SQ_n ?_))
  rw [MR_z h5, MR_r h5, sF_ne (show (18 : Nat) ≠ 14 by decide), sF_ne (show (18 : Nat) ≠ 13 by decide), sF_ne (show (18 : Nat) ≠ 11 by decide), sF_ne (show (18 : Nat) ≠ 10 by decide), sF_ne (show (18 : Nat) ≠ 9 by decide), sF_ne (show (18 : Nat) ≠ 8 by decide), sF_ne (show (18 : Nat) ≠ 12 by decide)]
  refine WW_pu rfl (rl_g hr hfi rfl) hr.2.1 PE_kI (SQ_n (WW_rtV ⟨_, rfl, rfl, ?_⟩))
  rw [MR_z h5, MR_r h5, sF_ne (show (4 : Nat) ≠ 18 by decide), sF_ne (show (4 : Nat) ≠ 14 by decide), sF_ne (show (4 : Nat) ≠ 13 by decide), sF_ne (show (4 : Nat) ≠ 11 by decide), sF_ne (show (4 : Nat) ≠ 10 by decide), sF_ne (show (4 : Nat) ≠ 9 by decide), sF_ne (show (4 : Nat) ≠ 8 by decide), sF_ne (show (4 : Nat) ≠ 12 by decide), zAdd_id (by omega) (by omega)]
  refine hq Xi _ hfi hi fun _ => ?_
  unfold pZ
  rw [← hv3, ← hv4, ← hw, ← hki, ← hhb, ← hbb, hnm', hmn']
end RP
