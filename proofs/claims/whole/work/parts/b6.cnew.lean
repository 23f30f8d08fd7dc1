/-! THE CLASS'S READER: a new name -/
section CNN
variable {c : cT} {V : Mem} {g : Nat} {G : oV} {R : Option gAV → cT → Mem → Prop} {t : Int → Int} {N q : Int}
theorem cc_73 {s : Int × Int} {o : Nat} (ho : mcl c.1 o = some 8) (o84 : o ≠ 84) (o0 : o ≠ 0) (hg : mcl c.1 g = some 4) (hpo : ∀ p : Nat, p < 7 → mcl c.1 (g + 13 + 4 * p) = some 8) (h8 : V 84 8 0 = (g : Int)) (h4 : V g 4 0 = G 4 0) (g4 : 0 ≤ G 4 0 ∧ G 4 0 ≤ 7) (hN : NM t N V g G) (ht : TX t N (V 0 0)) (hc : CT t N (V 84) q) (e : pA t N G s = (0, q))
    (hq0 : ∀ X, FK (V 84) X → CS t N X (pC t N G s) → (pC t N G s).1 ≠ 0 → R (some (vB false)) c (sO V 84 X))
    (hq1 : ∀ X, FK (V 84) X → CT t N X (nxF t N q) → pC t N G s = (0, nxF t N q) → pB t N G s = (0, q) → kdF t N q = 2 → R (some (vB true)) c (sO (sM (sM V o 0 (fun _ => stF t N q)) o 1 (fun _ => (lnF t N q : Int))) 84 X)) : CC 8 73 [vR (some 84), vR (some o)] c V R := by
  refine CC_of mt_73 gb_73 (by decide) (by decide) (rcb_o k_84) (Nat.le_of_ble_eq_true rfl) fun n dd hn hd => ?_
  show WW (bX9_newName (gOr n dd)) n [some (vR (some (84))), some (vR (some (o)))] _ _ _
  unfold bX9_newName
  have hn0 : 1000000000 ≤ n := hn
  obtain ⟨⟨r0, r1⟩, y1, -, y3, y4, -⟩ := id hc
  obtain ⟨n0, n1⟩ := ht.1
  have nb := (nx_b (t := t) r0 r1).1
  have pn := cl_nm (c := c) (V := V) (L := [some (vR (some 84)), some (vR (some o))]) hn (by omega : 7 ≤ dd) rfl ht hc
  have eb0 : pB0 t N G s = if nameB t N (0, q) = true then (0, q) else flw t N (0, q) 1 := by unfold pB0; rw [e]
  by_cases hnm : nameB t N (0, q) = true
  · rw [hnm] at pn
    rw [if_pos hnm] at eb0
    have k2 : kdF t N q = 2 := (nameB_k hnm).2
    have hl := (kd_2 r0 r1 k2).2.2.1
    have eb : pB t N G s = if fdF G (wdF t N q) = -1 then (0, q) else flw t N (0, q) 3 := by
      unfold pB
      rw [eb0]
      by_cases z : fdF G (wdF t N q) = -1
      · rw [if_neg (fun y => y.2 z), if_pos z]
      · rw [if_pos ⟨rfl, z⟩, if_neg z]
    have fb := fd_b (G := G) (w := wdF t N q) g4.1
    have p68 := PE_cz (op := .ge) (PE_cI (c := c) (V := V) (L := [some (vR (some 84)), some (vR (some o))]) (PE_aCR (PE_lR (i := 0) rfl) PE_a0) hn (pc_68 hg hpo h8 h4 g4 hN ht hc k2) (by omega : 2 ≤ dd))
    refine WW_se (WW_if pn (fun z => by cases z) (fun _ => WW_sk (SQ_n ?_)))
    by_cases z : fdF G (wdF t N q) = -1
    · rw [if_pos z] at eb
      have ec : pC t N G s = (0, nxF t N q) := by unfold pC; rw [eb, gO_0]
      refine WW_se (WW_if p68 (fun hb => absurd (show fdF G (wdF t N q) ≥ 0 from of_decide_eq_true hb) (by omega)) (fun _ => WW_sk (SQ_n ?_)))
      have p3 := PE_fI (ci := 9) (k := 3) (c := c) (V := V) (L := [some (vR (some 84)), some (vR (some o))]) rfl (PE_lR (i := 0) rfl) k_84
      rw [y3] at p3
      refine WW_se (WW_pf rfl (PE_lR rfl) ho p3 (SQ_n ?_))
      have a84 : sM V o 0 (fun _ => stF t N q) 84 = V 84 := by rw [sM, sO_ne (Ne.symm o84)]
      have p3 := PE_fI (ci := 9) (k := 3) (c := c) (V := sM V o 0 (fun _ => stF t N q)) (L := [some (vR (some 84)), some (vR (some o))]) rfl (PE_lR (i := 0) rfl) k_84
      have p4 := PE_fI (ci := 9) (k := 4) (c := c) (V := sM V o 0 (fun _ => stF t N q)) (L := [some (vR (some 84)), some (vR (some o))]) rfl (PE_lR (i := 0) rfl) k_84
      rw [a84, y3] at p3
      rw [a84, y4] at p4
      have pd := PE_o2 (f := zSub) p4 p3
      rw [zSub_id (by omega) (by omega), ← hl] at pd
      refine WW_se (WW_pf rfl (PE_lR rfl) ho pd (SQ_n ?_))
      obtain ⟨W, hW⟩ : ∃ W, W = sM (sM V o 0 (fun _ => stF t N q)) o 1 (fun _ => (lnF t N q : Int)) := ⟨_, rfl⟩
      rw [← hW] at hq1 ⊢
      have w84 : W 84 = V 84 := by rw [hW, sM, sO_ne (Ne.symm o84)]; exact a84
      have w0 : W 0 = V 0 := by rw [hW, sM, sO_ne (Ne.symm o0), sM, sO_ne (Ne.symm o0)]
      refine WW_se (WW_cV (PE_aCR (PE_lR rfl) PE_a0) hn (cc_58 (t := t) (N := N) (q := nxF t N q) (by rw [w0]; exact ht) (by rw [w84]; exact y1) (by rw [w84]; exact y4) (by omega) (by omega) fun X3 hf3 hX3 => ⟨rfl, SQ_n (WW_rtB PE_kB ⟨_, rfl, rfl, ?_⟩)⟩) (by omega))
      rw [w84] at hf3
      exact hq1 X3 hf3.fk hX3 ec eb k2
    · rw [if_neg z] at eb
      have ec : pC t N G s = flw t N (0, q) 3 := by unfold pC; rw [eb, gO_f (by decide)]
      refine WW_se (WW_if p68 (fun _ => WW_rtBE (EE_cB (PE_aCR (PE_lR rfl) (PE_aCI PE_kI PE_a0)) hn (cc_57 ⟨_, rfl, SQ_s ⟨_, rfl, rfl, ?_⟩⟩) (by omega))) (fun hb => absurd (show fdF G (wdF t N q) ≥ 0 by omega) (of_decide_eq_false hb)))
      exact hq0 _ FK_f (by rw [ec]; exact CS_f (by decide) hc) (by rw [ec]; exact flw_1 (by decide))
  · have hnf : nameB t N (0, q) = false := by simpa using hnm
    rw [hnf] at pn
    rw [if_neg hnm] at eb0
    have n1 : (pB0 t N G s).1 ≠ 0 := by rw [eb0]; exact flw_1 (by decide)
    have ec : pC t N G s = flw t N (0, q) 1 := by unfold pC pB; rw [if_neg (fun y => n1 y.1), eb0, gO_f (by decide)]
    refine WW_se (WW_if pn (fun _ => WW_rtBE (EE_cB (PE_aCR (PE_lR rfl) (PE_aCI PE_kI PE_a0)) hn (cc_57 ⟨_, rfl, SQ_s ⟨_, rfl, rfl, ?_⟩⟩) (by omega))) (fun z => by cases z))
    exact hq0 _ FK_f (by rw [ec]; exact CS_f (by decide) hc) (by rw [ec]; exact flw_1 (by decide))
end CNN
