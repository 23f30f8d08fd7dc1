/-! THE REFERENCE'S READER: all lines -/
section RALL
variable {c : cT} {V : Mem} {r : Nat} {R : Option gAV → cT → Mem → Prop} {t : Int → Int} {N : Int} {s : Int × Int}
theorem cc_186 (ht : TX t N (V 305 5)) (hs : RS t N (V 305) s) (hq : ∀ X, FrT (V 305) X → RS t N X (if smB t N s = true then gOn t N s else s) → R (some (vB (smB t N s))) c (sO V 305 X)) : CC 4 186 [vR (some 305)] c V R := by
  have h9 := RS_9 hs
  refine CC_of mt_186 gb_186 (by decide) (by decide) (rcb_o k_305) (Nat.le_of_ble_eq_true rfl) fun n dd hn hd => ?_
  show WW (bX13_eatsSemicolon (gOr n dd)) n [some (vR (some (305))), none] _ _ _
  unfold bX13_eatsSemicolon
  have hn0 : 1000000000 ≤ n := hn
  have p9 := PE_fI (ci := 13) (k := 9) (c := c) (V := V) (L := [some (vR (some 305)), none]) rfl (PE_lR (i := 0) rfl) k_305
  have p11 := PE_fI (ci := 13) (k := 11) (c := c) (V := V) (L := [some (vR (some 305)), none]) rfl (PE_lR (i := 0) rfl) k_305
  have pc := PE_and (PE_cm (op := .eq) p9 (PE_kI (z := 4))) (fun _ => PE_cm (op := .eq) p11 (PE_kI (z := 59)))
  have kr := kdR_2 (kdF_r (t := t) (N := N) (q := s.2))
  have eb : (cmB ClassFile.Cond.eq (V 305 9 0) 4 && cmB ClassFile.Cond.eq (V 305 11 0) 59) = smB t N s := by
    unfold smB
    apply Bool.eq_iff_iff.mpr
    simp only [cmB, Bool.and_eq_true, decide_eq_true_eq]
    by_cases h : s.1 = 0
    · rw [if_pos h] at h9
      obtain ⟨-, -, -, -, -, r4, r5, -⟩ := hs.2.1 h
      rw [h9]
      constructor
      · rintro ⟨q1, q2⟩
        refine ⟨h, ?_⟩
        rcases kr.2.2.2.2.mp q1 with k | k
        · exact k
        · have := r5 k; omega
      · rintro ⟨-, k⟩
        exact ⟨kr.2.2.2.2.mpr (Or.inl k), r4 k⟩
    · rw [if_neg h] at h9
      rw [h9]
      constructor
      · rintro ⟨q, -⟩; omega
      · rintro ⟨q, -⟩; exact absurd q h
  rw [eb] at pc
  refine WW_se (WW_stB pc (SQ_n ?_))
  cases hb : smB t N s with
  | true =>
    rw [hb] at hq
    refine WW_se (WW_if (PE_lB (b := true) rfl) (fun _ => ?_) (fun q => by cases q))
    exact WW_cV (PE_aCR (PE_lR rfl) PE_a0) hn (cc_183 ht hs (fun _ => by rw [(smB_k hb).2]; decide) fun X hf hr => ⟨rfl, SQ_n (WW_rtB (PE_lB (b := true) rfl) ⟨_, rfl, rfl, hq X hf hr⟩)⟩) (by omega)
  | false =>
    rw [hb] at hq
    refine WW_se (WW_if (PE_lB (b := false) rfl) (fun q => by cases q) (fun _ => WW_sk (SQ_n (WW_rtB (PE_lB (b := false) rfl) ⟨_, rfl, rfl, ?_⟩))))
    have := hq (V 305) FrT.rf hs
    rwa [sO_id] at this
theorem cc_196 (hr : RD c V r) (ht : TX t N (V 305 5)) (hg : GQ (V r)) (hs : RS t N (V 305) s) (hq : ∀ X Z, FrT (V 305) X → RS t N X (lnS t N (V r) s) → ((lnS t N (V r) s).1 = 0 → Z = lnZ t N (V r) s) → R none c (MR V r X Z)) : CC 13 196 [vR (some 305)] c V R := by
  refine CC_of mt_196 gb_196 (by decide) (by decide) (rcb_o k_305) (Nat.le_of_ble_eq_true rfl) fun n dd hn hd => ?_
  show WW (bX13_readLine (gOr n dd)) n [some (vR (some (305)))] _ _ _
  unfold bX13_readLine
  have hn0 : 1000000000 ≤ n := hn
  have pw : ∀ i, i < 51 → PE (cB (gOr n dd) 185 (aCR (lR 0) (aCS (kS i) (a0)))) [some (vR (some 305))] c V (isW t N s (wK i)) := fun i hi => PE_cB (PE_aCR (PE_lR rfl) (PE_aCS PE_kS PE_a0)) hn (pc_185 hi hs) (by omega)
  unfold lnS lnZ at hq
  refine WW_se (WW_if (pw 26 (by decide)) (fun h1 => ?_) (fun h1 => WW_if (pw 31 (by decide)) (fun h2 => ?_) (fun h2 => WW_if (pw 32 (by decide)) (fun h3 => ?_) (fun h3 => WW_if (pw 33 (by decide)) (fun h4 => ?_) (fun h4 => WW_if (pw 34 (by decide)) (fun h5 => ?_) (fun h5 => WW_if (pw 35 (by decide)) (fun h6 => ?_) (fun h6 => ?_)))))))
  · simp only [h1, if_true] at hq
    exact WW_cV (PE_aCR (PE_lR rfl) PE_a0) hn (cc_197 hr ht hs (fun _ => (isW_k h1).2.1) fun X Z hf u hz => ⟨rfl, SQ_n (WW_rtV ⟨_, rfl, rfl, hq X Z hf u hz⟩)⟩) (by omega)
  · simp only [h1, h2, if_true, Bool.false_eq_true, if_false] at hq
    exact WW_cV (PE_aCR (PE_lR rfl) PE_a0) hn (cc_198 hr ht hg hs (fun _ => (isW_k h2).2.1) fun X Z hf u hz => ⟨rfl, SQ_n (WW_rtV ⟨_, rfl, rfl, hq X Z hf u hz⟩)⟩) (by omega)
  · simp only [h1, h2, h3, if_true, Bool.false_eq_true, if_false] at hq
    exact WW_cV (PE_aCR (PE_lR rfl) PE_a0) hn (cc_199 hr ht hg hs (fun _ => (isW_k h3).2.1) fun X Z hf u hz => ⟨rfl, SQ_n (WW_rtV ⟨_, rfl, rfl, hq X Z hf u hz⟩)⟩) (by omega)
  · simp only [h1, h2, h3, h4, if_true, Bool.false_eq_true, if_false] at hq
    exact WW_cV (PE_aCR (PE_lR rfl) PE_a0) hn (cc_200 hr ht hg hs (fun _ => (isW_k h4).2.1) fun X Z hf u hz => ⟨rfl, SQ_n (WW_rtV ⟨_, rfl, rfl, hq X Z hf u hz⟩)⟩) (by omega)
  · simp only [h1, h2, h3, h4, h5, if_true, Bool.false_eq_true, if_false] at hq
    exact WW_cV (PE_aCR (PE_lR rfl) PE_a0) hn (cc_201 hr ht hg hs (fun _ => (isW_k h5).2.1) fun X Z hf u hz => ⟨rfl, SQ_n (WW_rtV ⟨_, rfl, rfl, hq X Z hf u hz⟩)⟩) (by omega)
  · simp only [h1, h2, h3, h4, h5, h6, if_true, Bool.false_eq_true, if_false] at hq
    exact WW_cV (PE_aCR (PE_lR rfl) PE_a0) hn (cc_202 hr ht hg hs (fun _ => (isW_k h6).2.1) fun X Z hf u hz => ⟨rfl, SQ_n (WW_rtV ⟨_, rfl, rfl, hq X Z hf u hz⟩)⟩) (by omega)
  · simp only [h1, h2, h3, h4, h5, h6, if_true, Bool.false_eq_true, if_false] at hq
    refine WW_cV (PE_aCR (PE_lR rfl) (PE_aCI PE_kI PE_a0)) hn (cc_184 (by decide) hs fun X hf u => ⟨rfl, SQ_n (WW_rtV ⟨_, rfl, rfl, ?_⟩)⟩) (by omega)
    have := hq X (V r) hf u (fun _ => rfl)
    have e : MR V r X (V r) = sO V 305 X := by unfold MR; rw [sO_id]
    rwa [e] at this
theorem MR_MR {X Z X1 Z1 : oV} (h : r ≠ 305) : MR (MR V r X Z) r X1 Z1 = MR V r X1 Z1 := by
  unfold MR
  funext b
  by_cases h1 : b = 305
  · subst h1; rw [sO_at, sO_at]
  · rw [sO_ne h1, sO_ne h1]
    by_cases h2 : b = r
    · subst h2; rw [sO_at, sO_at]
    · rw [sO_ne h2, sO_ne h2, sO_ne h1, sO_ne h2]
/-- whether it is the end -/
theorem rl_n1 {X Z : oV} {L : gLo} (hl : L[0]? = some (some (vR (some 305)))) (hs : RS t N X s) : PE (cmC .ne (fI 13 9 (lR 0)) (kI 1)) L c (MR V r X Z) (decide (¬ (s.1 = 0 ∧ kdF t N s.2 = 1))) := by
  have h9 := RS_9 (V := MR V r X Z) (by rw [MR_5]; exact hs)
  have p9 := PE_cm (op := .ne) (rl_f (c := c) (V := V) (r := r) (X := X) (Z := Z) (L := L) (k := 9) hl rfl) (PE_kI (z := 1))
  have e : cmB ClassFile.Cond.ne (X 9 0) 1 = decide (¬ (s.1 = 0 ∧ kdF t N s.2 = 1)) := by
    rw [MR_5] at h9
    have kr := kdR_2 (kdF_r (t := t) (N := N) (q := s.2))
    show decide (¬ X 9 0 = 1) = _
    congr 1
    apply propext
    rw [h9]
    by_cases h : s.1 = 0
    · rw [if_pos h, kr.2.2.1]
      exact ⟨fun q z => q z.2, fun q z => q ⟨h, z⟩⟩
    · rw [if_neg h]
      exact ⟨fun _ z => h z.1, fun _ => by decide⟩
  rwa [e] at p9
theorem cc_195 (hr : RD c V r) (ht : TX t N (V 305 5)) (hg : GV (V r)) (hs : RS t N (V 305) s) (hN : 0 ≤ N ∧ N ≤ 1000) (hq : ∀ X Z, FrT (V 305) X → RS t N X (prF t N (prA t N (N.toNat + 1) (V r) s)) → ((prF t N (prA t N (N.toNat + 1) (V r) s)).1 = 0 → Z = (prA t N (N.toNat + 1) (V r) s).1 ∧ GW Z) → R none c (MR V r X Z)) : CC 14 195 [vR (some 305)] c V R := by
  have h5 := hr.2.2
  obtain ⟨P, hP⟩ : ∃ P, P = prA t N (N.toNat + 1) (V r) s := ⟨_, rfl⟩
  rw [← hP] at hq
  refine CC_of mt_195 gb_195 (by decide) (by decide) (rcb_o k_305) (Nat.le_of_ble_eq_true rfl) fun n dd hn hd => ?_
  show WW (bX13_readAll (gOr n dd)) n [some (vR (some (305))), none] _ _ _
  unfold bX13_readAll
  have hn0 : 1000000000 ≤ n := hn
  refine WW_eq (MR_id h5).symm ?_
  refine WW_se (WW_se (WW_stB PE_kB (SQ_n ?_)))
  refine WW_se (WW_mono (Q' := fun ex L1 c1 V1 => ex = none ∧ ∃ (X Z : oV), L1 = [some (vR (some 305)), some (vB false)] ∧ c1 = c ∧ V1 = MR V r X Z ∧ FrT (V 305) X ∧ RS t N X P.2 ∧ (P.2.1 = 0 → Z = P.1 ∧ GV Z)) ?_ ?_)
  · refine WW_wh 900000000 (fun m L1 c1 V1 => ∃ (b : Bool) (X Z : oV), L1 = [some (vR (some 305)), some (vB b)] ∧ c1 = c ∧ V1 = MR V r X Z ∧ FrT (V 305) X ∧ ((b = true ∧ ∃ s' : Int × Int, GV Z ∧ RS t N X s' ∧ prA t N m Z s' = P ∧ 1 ≤ m ∧ (s'.1 = 0 → N - s'.2 < m)) ∨ (b = false ∧ RS t N X P.2 ∧ (P.2.1 = 0 → Z = P.1 ∧ GV Z)))) ?_ (N.toNat + 1) _ _ _ _ (by omega) ⟨true, V 305, V r, rfl, rfl, rfl, FrT.rf, Or.inl ⟨rfl, s, hg, hs, hP.symm, by omega, fun q => by have := (hs.2.1 q).1; omega⟩⟩
    rintro m k1 _ c _ hk1 ⟨b, X, Z, rfl, rfl, rfl, hf, hcase⟩
    rcases hcase with ⟨rfl, s', hGV, hX, hpr, m1, hm⟩ | ⟨rfl, hX, hZ⟩
    · refine EE_pe (PE_lB (i := 1) (b := true) rfl) ⟨fun _ => ?_, fun q => by cases q⟩
      obtain ⟨m', rfl⟩ : ∃ m', m = m' + 1 := ⟨m - 1, by omega⟩
      refine WW_se (WW_cV (PE_aCR (PE_lR rfl) PE_a0) hn (cc_196 (s := s') (RD_m hr hf) (by rw [MR_5]; exact hf.tx ht) (by rw [MR_r h5]; exact hGV.1) (by rw [MR_5]; exact hX) fun X1 Z1 hf1 h1 hz1 => ⟨rfl, SQ_n ?_⟩) (by omega))
      rw [MR_r h5] at h1 hz1
      rw [MR_5] at hf1
      rw [MR_MR h5]
      have hfx := hf.tr hf1
      have hrng : s'.1 = 0 → 0 ≤ s'.2 ∧ s'.2 ≤ N := fun q => (hX.2.1 q).1
      refine WW_stBE (EE_cBx hn (EE_pe (PE_aCR (PE_lR rfl) PE_a0) (cc_186 (s := lnS t N Z s') (by rw [MR_5]; exact hfx.tx ht) (by rw [MR_5]; exact h1) fun X2 hf2 h2 => ⟨_, rfl, LQ_n ?_⟩)) (by omega))
      rw [MR_5] at hf2
      rw [MR_x]
      have hfy := hfx.tr hf2
      refine WW_sk ⟨rfl, ?_⟩
      have ep : prA t N (m' + 1) Z s' = if smB t N (lnS t N Z s') = true then prA t N m' (lnZ t N Z s') (gOn t N (lnS t N Z s')) else (lnZ t N Z s', lnS t N Z s') := rfl
      rw [ep] at hpr
      cases hsm : smB t N (lnS t N Z s') with
      | true =>
        rw [hsm, if_pos rfl] at hpr h2
        have kk := smB_k hsm
        have hz := hz1 kk.1
        have s0 := (mo_ln kk.1).1
        have hmo := mo_sm hsm (hrng s0).1 (hrng s0).2 mo_ln
        have := hm s0
        refine ⟨m', by omega, true, X2, Z1, rfl, rfl, rfl, hfy, Or.inl ⟨rfl, _, ?_, h2, by rw [hz]; exact hpr, by omega, fun _ => by omega⟩⟩
        rw [hz]
        exact GV_ln hGV hrng kk.1
      | false =>
        rw [hsm, if_neg (by decide)] at hpr h2
        refine ⟨0, by omega, false, X2, Z1, rfl, rfl, rfl, hfy, Or.inr ⟨rfl, by rw [← hpr]; exact h2, fun q => ?_⟩⟩
        rw [← hpr] at q ⊢
        have hz := hz1 q
        rw [hz]
        exact ⟨rfl, GV_ln hGV hrng q⟩
    · exact EE_pe (PE_lB (i := 1) (b := false) rfl) ⟨(fun q => by cases q), fun _ => ⟨rfl, X, Z, rfl, rfl, rfl, hf, hX, hZ⟩⟩
  rintro _ _ c _ ⟨rfl, X, Z, rfl, rfl, rfl, hf, hX, hZ⟩
  refine SQ_n (WW_se (rl_if (by decide) (rl_n1 rfl hX) hn (by omega) rfl hf hX fun X2 hf2 h2 => SQ_n ?_))
  have e2 : (if decide (¬ (P.2.1 = 0 ∧ kdF t N P.2.2 = 1)) = true then flw t N P.2 1 else P.2) = prE t N P := by
    unfold prE
    by_cases z : P.2.1 = 0 ∧ kdF t N P.2.2 = 1
    · rw [if_pos z, decide_eq_false (fun q => q z)]; rfl
    · rw [if_neg z, decide_eq_true z]; rfl
  rw [e2] at h2
  refine rl_if (by decide) (PE_cz (op := .eq) (rl_G (k := 4) hr hf2 rfl rfl)) hn (by omega) rfl hf2 h2 fun X3 hf3 h3 => SQ_n (WW_rtV ⟨_, rfl, rfl, ?_⟩)
  have hE : (prE t N P).1 = 0 → P.2.1 = 0 := fun q => by
    unfold prE at q
    by_cases z : P.2.1 = 0 ∧ kdF t N P.2.2 = 1
    · exact z.1
    · rw [if_neg z] at q; exact absurd q (flw_1 (by decide))
  have e3 : (if cmB ClassFile.Cond.eq (Z 4 0) 0 = true then flw t N (prE t N P) 6 else prE t N P) = prF t N P := by
    unfold prF
    by_cases z : (prE t N P).1 = 0
    · rw [← (hZ (hE z)).1]
      simp [cmB]
    · have : flw t N (prE t N P) 6 = prE t N P := by unfold flw; rw [if_neg z]
      rw [this, ite_self, ite_self]
  rw [e3] at h3
  refine hq X3 Z hf3 h3 fun q => ?_
  have hPE : (prE t N P).1 = 0 ∧ P.1 4 0 ≠ 0 := by
    unfold prF at q
    by_cases z : P.1 4 0 = 0
    · rw [if_pos z] at q; exact absurd q (flw_1 (by decide))
    · rw [if_neg z] at q; exact ⟨q, z⟩
  have hz := hZ (hE hPE.1)
  exact ⟨hz.1, GV_GW hz.2 (by rw [hz.1]; exact hPE.2)⟩
end RALL
