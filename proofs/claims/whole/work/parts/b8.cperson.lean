/-! THE CLASS'S READER: person -/
/-- what a person's line may change: the reader and the person -/
def PS (o : Nat) (V W : Mem) : Prop := (∀ a, a ≠ 84 → a ≠ o → W a = V a) ∧ F7 (V 84) (W 84)
section CPE
variable {c : cT} {V : Mem} {g n n' dd : Nat} {G : oV} {L : gLo} {Q : gEx → gLo → cT → Mem → Prop} {R : Option gAV → cT → Mem → Prop} {t : Int → Int} {N q : Int}
theorem PS.tr {o : Nat} {V W U : Mem} (a : PS o V W) (b : PS o W U) : PS o V U := ⟨fun k h1 h2 => (b.1 k h1 h2).trans (a.1 k h1 h2), a.2.tr b.2⟩
theorem PS_x {o : Nat} {V : Mem} {X : oV} (h : F7 (V 84) X) : PS o V (sO V 84 X) := ⟨fun a h1 _ => sO_ne h1, by rw [sO_at]; exact h⟩
theorem PS_m {o k : Nat} {V : Mem} {f : Int → Int} (o84 : o ≠ 84) : PS o V (sM V o k f) := ⟨fun a _ h2 => by rw [sM, sO_ne h2], fun k _ => by rw [sM, sO_ne (Ne.symm o84)]⟩
theorem PS.df {o : Nat} {V W : Mem} (h : PS o V W) (h1 : g ≤ o) (h2 : o < g + 41) : DF g V W := ⟨fun a a1 a2 => h.1 a a1 (by omega), h.2⟩
theorem PS.tx {o : Nat} {V W : Mem} (h : PS o V W) (o0 : o ≠ 0) (ht : TX t N (V 0 0)) : TX t N (W 0 0) := by rw [h.1 0 (by decide) (Ne.symm o0)]; exact ht
theorem fl_ov {s : Int × Int} {f : Int} (h : s.1 ≠ 0) : flw t N s f = s := by unfold flw; rw [if_neg h]
theorem gf_ov {s : Int × Int} {P : Prop} [Decidable P] {f : Int} (h : s.1 ≠ 0) : gOn t N (if P then flw t N s f else s) = s := by rw [fl_ov h, ite_self, gO_ov h]
theorem pv_M {s : Int × Int} (h : (pM t N G s).1 ≠ 0) : pN t N G s = pM t N G s := gf_ov h
theorem pv_L {s : Int × Int} (h : (pL t N G s).1 ≠ 0) : pN t N G s = pL t N G s := by
  have e : pM t N G s = pL t N G s := nd_ov h
  rw [pv_M (by rw [e]; exact h), e]
theorem pv_K {s : Int × Int} (h : (pK t N G s).1 ≠ 0) : pN t N G s = pK t N G s := by
  have e : pL t N G s = pK t N G s := by unfold pL; rw [nd_ov h, rd_ov h]
  rw [pv_L (by rw [e]; exact h), e]
theorem pv_J {s : Int × Int} (h : (pJ t N G s).1 ≠ 0) : pN t N G s = pJ t N G s := by
  have e : pK t N G s = pJ t N G s := by unfold pK; rw [nd_ov h, rd_ov h]
  rw [pv_K (by rw [e]; exact h), e]
theorem pv_G {s : Int × Int} (h : (pG t N G s).1 ≠ 0) : pN t N G s = pG t N G s := by
  have e1 : pH t N G s = pG t N G s := by unfold pH; rw [fl_ov h, ite_self]
  have e2 : pI t N G s = pG t N G s := by unfold pI; rw [e1, if_neg (fun z => h z.1)]
  have e : pJ t N G s = pG t N G s := by unfold pJ; rw [e2, gO_ov h]
  rw [pv_J (by rw [e]; exact h), e]
theorem pv_F {s : Int × Int} (h : (pF t N G s).1 ≠ 0) : pN t N G s = pF t N G s := by
  have e : pG t N G s = pF t N G s := nd_ov h
  rw [pv_G (by rw [e]; exact h), e]
theorem pv_E {s : Int × Int} (h : (pE t N G s).1 ≠ 0) : pN t N G s = pE t N G s := by
  have e : pF t N G s = pE t N G s := gf_ov h
  rw [pv_F (by rw [e]; exact h), e]
theorem pv_D {s : Int × Int} (h : (pD t N G s).1 ≠ 0) : pN t N G s = pD t N G s := by
  have e : pE t N G s = pD t N G s := nd_ov h
  rw [pv_E (by rw [e]; exact h), e]
theorem pv_C {s : Int × Int} (h : (pC t N G s).1 ≠ 0) : pN t N G s = pC t N G s := by
  have e : pD t N G s = pC t N G s := gf_ov h
  rw [pv_D (by rw [e]; exact h), e]
/-- word(i) and the person's method m, or false -/
theorem cl_wm {i m D o : Nat} (hi' : i < 51) (hn : nB ≤ n') (hd : 7 ≤ dd) (hD : D ≤ dd) (hl : L[0]? = some (some (vR (some 84)))) (hl1 : L[1]? = some (some (vR (some o)))) (ht : TX t N (V 0 0)) (hc : CT t N (V 84) q)
    (hq0 : ∀ X, FK (V 84) X → CS t N X (nds t N (0, q) (wK i)) → (nds t N (0, q) (wK i)).1 ≠ 0 → Q (some (3, some (vB false))) L c (sO V 84 X))
    (hq1 : ∀ X, FK (V 84) X → CT t N X (nds t N (0, q) (wK i)).2 → (nds t N (0, q) (wK i)).1 = 0 → CC D m [vR (some 84), vR (some o)] c (sO V 84 X) (fun r c' V' => ∃ b, r = some (vB b) ∧ ((b = false → Q (some (3, some (vB false))) L c' V') ∧ (b = true → Q none L c' V')))) :
    WW (ifS (orC (notC (cB (gOr n' dd) 66 (aCR (lR 0) (aCS (kS i) (a0))))) (notC (cB (gOr n' dd) m (aCR (lR 0) (aCR (lR 1) (a0)))))) (rtB (kB false)) skS) n L c V Q := by
  refine WW_ifE (EE_or (EE_not (EE_cB (PE_aCR (PE_lR hl) (PE_aCS PE_kS PE_a0)) hn (cc_66 hi' ht hc fun X hf hX => ⟨_, rfl, fun hb => ?_, fun hb => ?_⟩) hd)))
  · have h1 : (nds t N (0, q) (wK i)).1 ≠ 0 := by simpa using hb
    exact ⟨fun _ => WW_rtB PE_kB (hq0 X hf hX h1), fun z => by cases z⟩
  · have h1 : (nds t N (0, q) (wK i)).1 = 0 := by simpa using hb
    refine EE_not (EE_cB (PE_aCR (PE_lR hl) (PE_aCR (PE_lR hl1) PE_a0)) hn (CC_mono (hq1 X hf (hX.1 h1) h1) ?_) hD)
    rintro r c' V' ⟨b, rfl, q0, q1⟩
    refine ⟨b, rfl, fun hb2 => ?_, fun hb2 => ?_⟩
    · exact WW_rtB PE_kB (q0 (by simpa using hb2))
    · exact WW_sk (q1 (by simpa using hb2))
theorem so_k {o k : Nat} {W : Mem} {f : Int → Int} {X : oV} (o84 : o ≠ 84) : sO (sM W o k f) 84 X o k = f := by rw [sO_ne o84, sM, sO_at, sF_at]
theorem so_n {o k j : Nat} {W : Mem} {f : Int → Int} {X : oV} (o84 : o ≠ 84) (h : j ≠ k) : sO (sM W o k f) 84 X o j = W o j := by rw [sO_ne o84, sM, sO_at, sF_ne h]
theorem so_ps {o k : Nat} {W : Mem} {f : Int → Int} {X : oV} (o84 : o ≠ 84) (hf : FK (W 84) X) : PS o W (sO (sM W o k f) 84 X) := (PS_m o84).tr (PS_x (by rw [sM, sO_ne (Ne.symm o84)]; exact hf.f7))
theorem cc_72 {s : Int × Int} {o : Nat} (eo : o = g + 13 + 4 * (G 4 0).toNat) (hg2 : g = 2 ∨ g = 43) (hg : mcl c.1 g = some 4) (hpo : ∀ p : Nat, p < 7 → mcl c.1 (g + 13 + 4 * p) = some 8) (h8 : V 84 8 0 = (g : Int)) (ht : TX t N (V 0 0)) (hc : CT t N (V 84) q) (hD : DRA t N V g G) (hV : GV G) (h7 : G 4 0 < 7) (e : pA t N G s = (0, q)) (hq : ∀ W, DF g V W → CS t N (W 84) (pN t N G s) → ((pN t N G s).1 = 0 → DRA t N W g (pZ t N G s)) → R (some (vB (decide ((pN t N G s).1 = 0)))) c W) : CC 9 72 [vR (some 84), vR (some o)] c V R := by
  obtain ⟨⟨D0, D1, D2, D3, D4, D5, D6, D7⟩, hmv, hsn, hsy, hpe, hlk, hst, hhr, hnm⟩ := id hD
  obtain ⟨⟨g0, g1, g2, g4, g5, g6, g7, g15, g17⟩, hz15, -⟩ := id hV
  have hA0 : (pA t N G s).1 = 0 := by rw [e]
  have k1 := bgS_k hA0
  obtain ⟨b0, b1, b2, b3, b4, -⟩ := GV_B hV k1.2.2.1
  obtain ⟨-, -, ⟨-, -, -, -, w14⟩, ⟨-, -, -, w19⟩, w20, w21, w22, -⟩ := wK_e
  have g84 : g ≠ 84 := by omega
  have o84 : o ≠ 84 := by omega
  have o0 : o ≠ 0 := by omega
  have og : o ≠ g := by omega
  have o1 : g ≤ o := by omega
  have o2 : o < g + 41 := by omega
  have oc : mcl c.1 o = some 8 := by rw [eo]; exact hpo _ (by omega)
  have fl : (pN t N G s).1 ≠ 0 → ∀ W, PS o V W → CS t N (W 84) (pN t N G s) → R (some (vB false)) c W := fun z W hW hC => by
    have := hq W (hW.df o1 o2) hC (fun y => absurd y z)
    rwa [decide_eq_false z] at this
  refine CC_of mt_72 gb_72 (by decide) (by decide) (rcb_o k_84) (Nat.le_of_ble_eq_true rfl) fun n dd hn hd => ?_
  show WW (bX9_personLine (gOr n dd)) n [some (vR (some (84))), some (vR (some (o)))] _ _ _
  unfold bX9_personLine
  have hn0 : 1000000000 ≤ n := hn
  -- a new name, and his kind
  refine WW_se (WW_ifE (EE_or (EE_not (EE_cB (PE_aCR (PE_lR rfl) (PE_aCR (PE_lR rfl) PE_a0)) hn (cc_73 (G := G) (s := s) oc o84 o0 hg hpo h8 D4 g4 hnm ht hc e (fun X hf hX h0 => ⟨_, rfl, (fun _ => ⟨(fun _ => WW_rtB PE_kB (SQ_s ⟨_, rfl, rfl, ?_⟩)), (fun z => by cases z)⟩), (fun z => by cases z)⟩) (fun X hf hX eC eB k2 => ⟨_, rfl, (fun z => by cases z), fun _ => ?_⟩)) (by omega)))))
  · exact fl (by rw [pv_C h0]; exact h0) _ (PS_x hf.f7) (by rw [pv_C h0, sO_at]; exact hX)
  obtain ⟨W0, hW0⟩ : ∃ W0, W0 = sO (sM (sM V o 0 (fun _ => stF t N q)) o 1 (fun _ => (lnF t N q : Int))) 84 X := ⟨_, rfl⟩
  rw [← hW0]
  have d0 : PS o V W0 := by
    rw [hW0]
    exact ((PS_m o84).tr (PS_m o84)).tr (PS_x (by rw [sM, sO_ne (Ne.symm o84), sM, sO_ne (Ne.symm o84)]; exact hf.f7))
  have x00 : W0 o 0 0 = stF t N q := by rw [hW0, so_n o84 (by decide), sM, sO_at, sF_at]
  have x01 : W0 o 1 0 = (lnF t N q : Int) := by rw [hW0, so_k o84]
  have c0 : CT t N (W0 84) (nxF t N q) := by rw [hW0, sO_at]; exact hX
  clear hW0
  obtain ⟨q1, hq1⟩ : ∃ q1, q1 = nxF t N q := ⟨_, rfl⟩
  rw [← hq1] at c0 eC
  have eD : pD t N G s = gOn t N (if kiF t N (0, q1) = -1 then flw t N (0, q1) 1 else (0, q1)) := by unfold pD; rw [eC]
  refine EE_not (EE_cB (PE_aCR (PE_lR rfl) (PE_aCR (PE_lR rfl) PE_a0)) hn (cc_74 oc o84 o0 (d0.tx o0 ht) c0 fun X1 hf1 hX1 => ⟨_, rfl, fun hb => ?_, fun hb => ?_⟩) (by omega))
  · rw [← eD] at hX1 hb
    have h0 : (pD t N G s).1 ≠ 0 := by simpa using hb
    exact WW_rtB PE_kB (SQ_s ⟨_, rfl, rfl, fl (by rw [pv_D h0]; exact h0) _ (d0.tr (so_ps o84 hf1)) (by rw [pv_D h0, sO_at]; exact hX1)⟩)
  rw [← eD] at hX1 hb
  have hD0 : (pD t N G s).1 = 0 := by simpa using hb
  refine WW_sk (SQ_n ?_)
  obtain ⟨W1, hW1⟩ : ∃ W1, W1 = sO (sM W0 o 2 (fun _ => kiF t N (0, q1))) 84 X1 := ⟨_, rfl⟩
  rw [← hW1]
  obtain ⟨q2, hq2⟩ : ∃ q2, q2 = (pD t N G s).2 := ⟨_, rfl⟩
  have s1 : pD t N G s = (0, q2) := Prod.ext hD0 hq2.symm
  have d1 : PS o V W1 := by rw [hW1]; exact d0.tr (so_ps o84 hf1)
  have k1' : ∀ j, j ≠ 2 → W1 o j = W0 o j := fun j hj => by rw [hW1, so_n o84 hj]
  have x12 : W1 o 2 0 = kiF t N (pC t N G s) := by rw [hW1, so_k o84, eC]
  have c1 : CT t N (W1 84) q2 := by rw [hW1, sO_at, hq2]; exact hX1.1 hD0
  clear hW1 hX1 hb
  -- buys, and his habit
  have eE : pE t N G s = nds t N (0, q2) (wK 14) := by unfold pE; rw [s1, w14]
  refine WW_se (cl_wm (i := 14) (m := 75) (D := 8) (o := o) (by decide) hn (by omega) (by omega) rfl rfl (d1.tx o0 ht) c1 (fun X hf hX h0 => SQ_s ⟨_, rfl, rfl, ?_⟩) (fun X hf hX h0 => ?_))
  · rw [← eE] at hX h0
    exact fl (by rw [pv_E h0]; exact h0) _ (d1.tr (PS_x hf.f7)) (by rw [pv_E h0, sO_at]; exact hX)
  rw [← eE] at hX h0
  obtain ⟨q3, hq3⟩ : ∃ q3, q3 = (pE t N G s).2 := ⟨_, rfl⟩
  rw [← hq3] at hX
  have s2 : pE t N G s = (0, q3) := Prod.ext h0 hq3.symm
  have eF : pF t N G s = gOn t N (if hbF t N (0, q3) = -1 then flw t N (0, q3) 1 else (0, q3)) := by unfold pF; rw [s2]
  refine cc_75 (t := t) (N := N) (q := q3) oc o84 o0 (by rw [sO_ne (by decide)]; exact d1.tx o0 ht) (by rw [sO_at]; exact hX) fun X2 hf2 hX2 => ⟨_, rfl, fun hb => ?_, fun hb => SQ_n ?_⟩
  · rw [← eF] at hX2 hb
    have h0' : (pF t N G s).1 ≠ 0 := by simpa using hb
    exact SQ_s ⟨_, rfl, rfl, fl (by rw [pv_F h0']; exact h0') _ ((d1.tr (PS_x hf.f7)).tr (so_ps o84 hf2)) (by rw [pv_F h0', sO_at]; exact hX2)⟩
  rw [← eF] at hX2 hb
  have hF0 : (pF t N G s).1 = 0 := by simpa using hb
  obtain ⟨W2, hW2⟩ : ∃ W2, W2 = sO (sM (sO W1 84 X) o 3 (fun _ => hbF t N (0, q3))) 84 X2 := ⟨_, rfl⟩
  rw [← hW2]
  obtain ⟨q4, hq4⟩ : ∃ q4, q4 = (pF t N G s).2 := ⟨_, rfl⟩
  have s3 : pF t N G s = (0, q4) := Prod.ext hF0 hq4.symm
  have d2 : PS o V W2 := by rw [hW2]; exact (d1.tr (PS_x hf.f7)).tr (so_ps o84 hf2)
  have k2' : ∀ j, j ≠ 3 → W2 o j = W1 o j := fun j hj => by rw [hW2, so_n o84 hj, sO_ne o84]
  have x23 : W2 o 3 0 = hbF t N (pE t N G s) := by rw [hW2, so_k o84, s2]
  have c2 : CT t N (W2 84) q4 := by rw [hW2, sO_at, hq4]; exact hX2.1 hF0
  clear hW2 hX2 hb hX hf hf2 X2 X
  -- likes, and his order
  have eG : pG t N G s = nds t N (0, q4) (wK 19) := by unfold pG; rw [s3, w19]
  refine WW_se (cl_wm (i := 19) (m := 77) (D := 4) (o := o) (by decide) hn (by omega) (by omega) rfl rfl (d2.tx o0 ht) c2 (fun X hf hX h0 => SQ_s ⟨_, rfl, rfl, ?_⟩) (fun X hf hX h0 => ?_))
  · rw [← eG] at hX h0
    exact fl (by rw [pv_G h0]; exact h0) _ (d2.tr (PS_x hf.f7)) (by rw [pv_G h0, sO_at]; exact hX)
  rw [← eG] at hX h0
  obtain ⟨q5, hq5⟩ : ∃ q5, q5 = (pG t N G s).2 := ⟨_, rfl⟩
  rw [← hq5] at hX
  have s4 : pG t N G s = (0, q5) := Prod.ext h0 hq5.symm
  refine cc_77 (t := t) (N := N) (q := q5) (G := G) (s := s) (g := g) oc o84 o0 og hg (by rw [sO_at, hf 8 (by omega), d2.2 8 (by omega)]; exact h8) (by rw [sO_ne g84, d2.1 g g84 (Ne.symm og)]; exact D2) g2 (by rw [sO_ne (by decide)]; exact d2.tx o0 ht) (by rw [sO_at]; exact hX) s4 (fun W hw hfw hC h0' => ⟨_, rfl, (fun _ => SQ_s ⟨_, rfl, rfl, ?_⟩), (fun z => by cases z)⟩) (fun W3 wa3 hf3 wo3 c3 eJ eH k5 x34 x35 => ⟨_, rfl, (fun z => by cases z), fun _ => SQ_n ?_⟩)
  · exact fl (by rw [pv_J h0']; exact h0') _ ((d2.tr (PS_x hf.f7)).tr ⟨hw, hfw.f7⟩) (by rw [pv_J h0']; exact hC)
  have d3 : PS o V W3 := (d2.tr (PS_x hf.f7)).tr ⟨wa3, hf3.f7⟩
  have k3' : ∀ j, j ≠ 4 → j ≠ 5 → W3 o j = W2 o j := fun j a b => by rw [wo3 j a b, sO_ne o84]
  clear wa3 wo3 hf3 hX hf X
  obtain ⟨q6, hq6⟩ : ∃ q6, q6 = nxF t N q5 := ⟨_, rfl⟩
  rw [← hq6] at c3 eJ
  -- keeps
  have eK : pK t N G s = rdS t N (nds t N (0, q6) (wK 20)) 3 30 := by unfold pK; rw [eJ, w20]
  refine WW_se (cl_ww (i := 20) (lo := 3) (hi := 30) (by decide) hn (by omega) rfl (d3.tx o0 ht) c3 (fun X hf hX h0 => SQ_s ⟨_, rfl, rfl, ?_⟩) (fun X4 hf4 hX4 h04 h64 => SQ_n ?_))
  · rw [← eK] at hX h0
    exact fl (by rw [pv_K h0]; exact h0) _ (d3.tr (PS_x hf.f7)) (by rw [pv_K h0, sO_at]; exact hX)
  rw [← eK] at hX4 h04
  refine WW_se (WW_pf rfl (PE_lR rfl) oc (cl_f (k := 6) rfl rfl) (SQ_n ?_))
  obtain ⟨W4, hW4⟩ : ∃ W4, W4 = sM (sO W3 84 X4) o 6 (fun _ => X4 6 0) := ⟨_, rfl⟩
  rw [← hW4]
  obtain ⟨q7, hq7⟩ : ∃ q7, q7 = (pK t N G s).2 := ⟨_, rfl⟩
  have s5 : pK t N G s = (0, q7) := Prod.ext h04 hq7.symm
  have d4 : PS o V W4 := by rw [hW4]; exact (d3.tr (PS_x hf4.f7)).tr (PS_m o84)
  have k4' : ∀ j, j ≠ 6 → W4 o j = W3 o j := fun j hj => by rw [hW4, sM, sO_at, sF_ne hj, sO_ne o84]
  have x46 : W4 o 6 0 = bnV t N (nds t N (pJ t N G s) (wK 45)) 3 30 := by rw [hW4, sM, sO_at, sF_at, h64, eJ, w20]
  have c4 : CT t N (W4 84) q7 := by rw [hW4, sM, sO_ne (Ne.symm o84), sO_at, hq7]; exact hX4
  clear hW4 hX4 h64 hf4 X4
  -- wears
  have eL : pL t N G s = rdS t N (nds t N (0, q7) (wK 21)) 1 9 := by unfold pL; rw [s5, w21]
  refine WW_se (cl_ww (i := 21) (lo := 1) (hi := 9) (by decide) hn (by omega) rfl (d4.tx o0 ht) c4 (fun X hf hX h0 => SQ_s ⟨_, rfl, rfl, ?_⟩) (fun X4 hf4 hX4 h05 h65 => SQ_n ?_))
  · rw [← eL] at hX h0
    exact fl (by rw [pv_L h0]; exact h0) _ (d4.tr (PS_x hf.f7)) (by rw [pv_L h0, sO_at]; exact hX)
  rw [← eL] at hX4 h05
  refine WW_se (WW_pf rfl (PE_lR rfl) oc (cl_f (k := 6) rfl rfl) (SQ_n ?_))
  obtain ⟨W5, hW5⟩ : ∃ W5, W5 = sM (sO W4 84 X4) o 7 (fun _ => X4 6 0) := ⟨_, rfl⟩
  rw [← hW5]
  obtain ⟨q8, hq8⟩ : ∃ q8, q8 = (pL t N G s).2 := ⟨_, rfl⟩
  have s6 : pL t N G s = (0, q8) := Prod.ext h05 hq8.symm
  have d5 : PS o V W5 := by rw [hW5]; exact (d4.tr (PS_x hf4.f7)).tr (PS_m o84)
  have k5' : ∀ j, j ≠ 7 → W5 o j = W4 o j := fun j hj => by rw [hW5, sM, sO_at, sF_ne hj, sO_ne o84]
  have x57 : W5 o 7 0 = bnV t N (nds t N (pK t N G s) (wK 46)) 1 9 := by rw [hW5, sM, sO_at, sF_at, h65, s5, w21]
  have c5 : CT t N (W5 84) q8 := by rw [hW5, sM, sO_ne (Ne.symm o84), sO_at, hq8]; exact hX4
  clear hW5 hX4 h65 hf4 X4
  -- takes
  have eM : pM t N G s = nds t N (0, q8) (wK 22) := by unfold pM; rw [s6, w22]
  refine WW_se (cl_wm (i := 22) (m := 76) (D := 7) (o := o) (by decide) hn (by omega) (by omega) rfl rfl (d5.tx o0 ht) c5 (fun X hf hX h0 => SQ_s ⟨_, rfl, rfl, ?_⟩) (fun X hf hX h0 => ?_))
  · rw [← eM] at hX h0
    exact fl (by rw [pv_M h0]; exact h0) _ (d5.tr (PS_x hf.f7)) (by rw [pv_M h0, sO_at]; exact hX)
  rw [← eM] at hX h0
  obtain ⟨q9, hq9⟩ : ∃ q9, q9 = (pM t N G s).2 := ⟨_, rfl⟩
  rw [← hq9] at hX
  have s7 : pM t N G s = (0, q9) := Prod.ext h0 hq9.symm
  have eN : pN t N G s = gOn t N (if isW t N (0, q9) (wK 48) = false ∧ isW t N (0, q9) (wK 49) = false then flw t N (0, q9) 1 else (0, q9)) := by unfold pN; rw [s7]
  refine cc_76 (t := t) (N := N) (q := q9) oc o84 o0 (by rw [sO_ne (by decide)]; exact d5.tx o0 ht) (by rw [sO_at]; exact hX) fun X2 hf2 hX2 => ⟨_, rfl, fun hb => ?_, fun hb => SQ_n ?_⟩
  · rw [← eN] at hX2 hb
    have h0' : (pN t N G s).1 ≠ 0 := by simpa using hb
    exact SQ_s ⟨_, rfl, rfl, fl h0' _ ((d5.tr (PS_x hf.f7)).tr (so_ps o84 hf2)) (by rw [sO_at]; exact hX2)⟩
  rw [← eN] at hX2 hb
  have hN0 : (pN t N G s).1 = 0 := by simpa using hb
  obtain ⟨W6, hW6⟩ : ∃ W6, W6 = sO (sM (sO W5 84 X) o 8 (fun _ => if isW t N (0, q9) (wK 48) = true then 1 else 0)) 84 X2 := ⟨_, rfl⟩
  rw [← hW6]
  have d6 : PS o V W6 := by rw [hW6]; exact (d5.tr (PS_x hf.f7)).tr (so_ps o84 hf2)
  have k6' : ∀ j, j ≠ 8 → W6 o j = W5 o j := fun j hj => by rw [hW6, so_n o84 hj, sO_ne o84]
  have x68 : W6 o 8 0 = if isW t N (pM t N G s) (wK 48) = true then 1 else 0 := by rw [hW6, so_k o84, s7]
  have c6 : CT t N (W6 84) (pN t N G s).2 := by rw [hW6, sO_at]; exact hX2.1 hN0
  clear hW6 hX2 hb hX hf hf2 X2 X
  refine WW_se (WW_pf rfl (PE_lR rfl) oc PE_kI (SQ_n ?_))
  obtain ⟨U, hU⟩ : ∃ U, U = sM W6 o 9 (fun _ => 0) := ⟨_, rfl⟩
  rw [← hU]
  have dU : PS o V U := by rw [hU]; exact d6.tr (PS_m o84)
  have kU : ∀ j, j ≠ 9 → U o j = W6 o j := fun j hj => by rw [hU, sM, sO_at, sF_ne hj]
  have xU9 : U o 9 0 = 0 := by rw [hU, sM, sO_at, sF_at]
  have xU84 : U 84 = W6 84 := by rw [hU, sM, sO_ne (Ne.symm o84)]
  clear hU
  have uG : U g = V g := dU.1 g g84 (Ne.symm og)
  refine WW_se (WW_pu rfl (PE_fP rfl (PE_lR rfl) k_84 (by rw [dU.2 8 (by omega)]; exact h8)) hg PE_kI (SQ_n (WW_rtB PE_kB ⟨_, rfl, rfl, ?_⟩)))
  rw [uG, D4, zAdd_id (by omega) (by omega)]
  obtain ⟨W, hW⟩ : ∃ W, W = sM U g 4 (fun _ => G 4 0 + 1) := ⟨_, rfl⟩
  rw [← hW]
  have wa : ∀ a, a ≠ 84 → a ≠ o → a ≠ g → W a = V a := fun a a1 a2 a3 => by rw [hW, sM, sO_ne a3]; exact dU.1 a a1 a2
  have wg : ∀ j, j ≠ 4 → W g j = V g j := fun j hj => by rw [hW, sM, sO_at, sF_ne hj, uG]
  have wg4 : W g 4 0 = G 4 0 + 1 := by rw [hW, sM, sO_at, sF_at]
  have wo : W o = U o := by rw [hW, sM, sO_ne og]
  have w84 : W 84 = W6 84 := by rw [hW, sM, sO_ne (Ne.symm g84)]; exact xU84
  clear hW
  have dW : DF g V W := ⟨fun a a1 a2 => wa a a1 (by omega) (by omega), by rw [w84]; exact d6.2⟩
  have := hq W dW ⟨fun _ => by rw [w84]; exact c6, fun z => absurd hN0 z⟩ (fun _ => ?_)
  · rwa [decide_eq_true hN0] at this
  have u0 : W o 0 0 = stF t N q := by rw [wo, kU 0 (by decide), k6' 0 (by decide), k5' 0 (by decide), k4' 0 (by decide), k3' 0 (by decide) (by decide), k2' 0 (by decide), k1' 0 (by decide)]; exact x00
  have u1 : W o 1 0 = (lnF t N q : Int) := by rw [wo, kU 1 (by decide), k6' 1 (by decide), k5' 1 (by decide), k4' 1 (by decide), k3' 1 (by decide) (by decide), k2' 1 (by decide), k1' 1 (by decide)]; exact x01
  have u2 : W o 2 0 = kiF t N (pC t N G s) := by rw [wo, kU 2 (by decide), k6' 2 (by decide), k5' 2 (by decide), k4' 2 (by decide), k3' 2 (by decide) (by decide), k2' 2 (by decide)]; exact x12
  have u3 : W o 3 0 = hbF t N (pE t N G s) := by rw [wo, kU 3 (by decide), k6' 3 (by decide), k5' 3 (by decide), k4' 3 (by decide), k3' 3 (by decide) (by decide)]; exact x23
  have u4 : W o 4 0 = (lnF t N q5 : Int) := by rw [wo, kU 4 (by decide), k6' 4 (by decide), k5' 4 (by decide), k4' 4 (by decide)]; exact x34
  have u5 : ∀ i : Int, 0 ≤ i → i < lnF t N q5 → W o 5 i = t (stF t N q5 + i) - 97 := fun i i0 i1 => by rw [wo, kU 5 (by decide), k6' 5 (by decide), k5' 5 (by decide), k4' 5 (by decide)]; exact x35 i i0 i1
  have u6 : W o 6 0 = bnV t N (nds t N (pJ t N G s) (wK 45)) 3 30 := by rw [wo, kU 6 (by decide), k6' 6 (by decide), k5' 6 (by decide)]; exact x46
  have u7 : W o 7 0 = bnV t N (nds t N (pK t N G s) (wK 46)) 1 9 := by rw [wo, kU 7 (by decide), k6' 7 (by decide)]; exact x57
  have u8 : W o 8 0 = if isW t N (pM t N G s) (wK 48) = true then 1 else 0 := by rw [wo, kU 8 (by decide)]; exact x68
  have u9 : W o 9 0 = 0 := by rw [wo]; exact xU9
  clear x00 x01 x12 x23 x34 x35 x46 x57 x68 xU9 kU k6' k5' k4' k3' k2' k1' wo
  have z8 : pZ t N G s 8 = gUz (G 8) (G 4 0) (wdF t N q) := by rw [show pZ t N G s 8 = gUz (G 8) (G 4 0) (wdF t N (pB t N G s).2) from rfl, eB]
  have z9 : pZ t N G s 9 = gUz (G 9) (G 4 0) (kiF t N (pC t N G s)) := rfl
  have z10 : pZ t N G s 10 = gUz (G 10) (G 4 0) (hbF t N (pE t N G s)) := rfl
  have z11 : pZ t N G s 11 = gUz (G 11) (G 4 0) (lnF t N q5 : Int) := by rw [show pZ t N G s 11 = gUz (G 11) (G 4 0) (lnF t N (pH t N G s).2 : Int) from rfl, eH]
  have z12 : pZ t N G s 12 = lkW t N G q5 (lnF t N q5) := by rw [show pZ t N G s 12 = lkW t N G (pH t N G s).2 (lnF t N (pH t N G s).2) from rfl, eH]
  have z13 : pZ t N G s 13 = gUz (G 13) (G 4 0) (bnV t N (nds t N (pJ t N G s) (wK 45)) 3 30) := rfl
  have z14 : pZ t N G s 14 = gUz (G 14) (G 4 0) (bnV t N (nds t N (pK t N G s) (wK 46)) 1 9) := rfl
  have z18 : pZ t N G s 18 = gUz (G 18) (G 4 0) (if isW t N (pM t N G s) (wK 48) = true then 1 else 0) := rfl
  have z4 : pZ t N G s 4 0 = G 4 0 + 1 := rfl
  have hh : ∀ p d, hereB (pZ t N G s) p d = hereB G p d ∧ comesB (pZ t N G s) p d = comesB G p d ∧ goesB (pZ t N G s) p d = goesB G p d := fun p d => ⟨rfl, rfl, rfl⟩
  have zr : (pZ t N G s 0 = G 0 ∧ pZ t N G s 1 = G 1 ∧ pZ t N G s 2 = G 2 ∧ pZ t N G s 3 = G 3 ∧ pZ t N G s 5 = G 5 ∧ pZ t N G s 6 = G 6 ∧ pZ t N G s 7 = G 7) ∧ (pZ t N G s 15 = G 15 ∧ pZ t N G s 16 = G 16 ∧ pZ t N G s 17 = G 17) ∧ (pZ t N G s 19 = G 19 ∧ pZ t N G s 20 = G 20 ∧ pZ t N G s 21 = G 21 ∧ pZ t N G s 22 = G 22 ∧ pZ t N G s 23 = G 23 ∧ pZ t N G s 24 = G 24 ∧ pZ t N G s 25 = G 25 ∧ pZ t N G s 26 = G 26) := ⟨⟨rfl, rfl, rfl, rfl, rfl, rfl, rfl⟩, ⟨rfl, rfl, rfl⟩, ⟨rfl, rfl, rfl, rfl, rfl, rfl, rfl, rfl⟩⟩
  obtain ⟨Z, hZ⟩ : ∃ Z, Z = pZ t N G s := ⟨_, rfl⟩
  rw [← hZ] at z8 z9 z10 z11 z12 z13 z14 z18 z4 hh zr ⊢
  clear hZ
  obtain ⟨⟨z0, z1, z2, z3, z5, z6, z7⟩, ⟨z15, z16, z17⟩, z19, z20, z21, z22, z23, z24, z25, z26⟩ := zr
  have up : ∀ p : Int, 0 ≤ p → p < G 4 0 → W (g + 13 + 4 * p.toNat) = V (g + 13 + 4 * p.toNat) := fun p a1 a3 => wa _ (by omega) (by omega) (by omega)
  have e15 : G 15 (G 4 0) = 0 := hz15 (G 4 0) (by omega) h7
  have hdec : ∀ (P : Int → Bool), P (G 4 0) = false → bset 7 (fun p => decide (p < G 4 0) && P p) = bset 7 (fun p => decide (p < G 4 0 + 1) && P p) := fun P hP => bset_congr fun j j0 j1 => by
    by_cases ej : j = G 4 0
    · rw [ej, hP, Bool.and_false, Bool.and_false]
    · rw [decide_eq_decide.mpr (show j < G 4 0 ↔ j < G 4 0 + 1 by omega)]
  unfold DRA NM
  rw [z0, z1, z2, z3, z4, z5, z6, z7, z19, z20, z21, z22, z23, z24, z25, z26]
  refine ⟨⟨?_, ?_, ?_, ?_, wg4, ?_, ?_, ?_⟩, ?_, ?_, ?_, ?_, ?_, ?_, ?_, ?_⟩
  · rw [wg 0 (by decide)]; exact D0
  · rw [wg 1 (by decide)]; exact D1
  · rw [wg 2 (by decide)]; exact D2
  · rw [wg 3 (by decide)]; exact D3
  · rw [wg 6 (by decide)]; exact D5
  · rw [wg 10 (by decide)]; exact D6
  · rw [wg 13 (by decide)]; exact D7
  · rw [wg 7 (by decide), wg 8 (by decide), wg 9 (by decide)]; exact hmv
  · rw [wg 11 (by decide), wg 12 (by decide)]; exact hsn
  · rw [wg 14 (by decide), wg 15 (by decide), wg 16 (by decide)]; exact hsy
  · intro p p0 p1
    rw [z9, z10, z11, z13, z14, z15, z18]
    by_cases ee : p = G 4 0
    · rw [ee, ← eo]
      simp only [gUz_at]
      exact ⟨u2, u3, u4, u6, u7, u8, by rw [u9, e15]⟩
    · simp only [gUz_ne ee]
      rw [up p p0 (by omega)]
      exact hpe p p0 (by omega)
  · intro p i p0 p1 i0 i1
    rw [z11] at i1
    rw [z12, lkW_at]
    by_cases ee : p = G 4 0
    · rw [ee, gUz_at] at i1
      rw [ee, ← eo, u5 i i0 i1, if_pos (by omega), show 6 * G 4 0 + i - 6 * G 4 0 = i by omega]
    · rw [gUz_ne ee] at i1
      have hb := b4 p p0 (by omega)
      rw [if_neg (by omega), up p p0 (by omega)]
      exact hlk p i p0 (by omega) i0 i1
  · intro p i p0 p1 i0 i1
    rw [z15] at i1
    rw [z16, z17]
    by_cases ee : p = G 4 0
    · rw [ee, e15] at i1
      omega
    · rw [up p p0 (by omega)]
      exact hst p i p0 (by omega) i0 i1
  · intro d d0 d1
    obtain ⟨e17, e18, e19⟩ := hhr d d0 d1
    have h1 : ∀ p, hereB Z p d = hereB G p d := fun p => (hh p d).1
    have h2 : ∀ p, comesB Z p d = comesB G p d := fun p => (hh p d).2.1
    have h3 : ∀ p, goesB Z p d = goesB G p d := fun p => (hh p d).2.2
    simp only [h1, h2, h3]
    rw [wg 17 (by decide), wg 18 (by decide), wg 19 (by decide), e17, e18, e19]
    exact ⟨hdec _ (by unfold hereB; rw [e15]; rfl), hdec _ (by unfold comesB; rw [e15]; rfl), hdec _ (by unfold goesB; rw [e15]; rfl)⟩
  · intro p p0 p1
    rw [z8]
    by_cases ee : p = G 4 0
    · rw [ee, ← eo, gUz_at]
      exact ⟨q, ⟨hc.1.1, hc.1.2⟩, k2, u0, u1, rfl⟩
    · rw [gUz_ne ee, up p p0 (by omega)]
      exact hnm p p0 (by omega)
end CPE
