/-! THE CLASS'S READER: a person's kind and habit -/
section CKH
variable {c : cT} {V : Mem} {R : Option gAV → cT → Mem → Prop} {t : Int → Int} {N q : Int}
theorem w18 (hc : CT t N (V 84) q) : isW t N (0, q) (wK 18) = false := by
  cases h : isW t N (0, q) (wK 18) with
  | false => rfl
  | true =>
    obtain ⟨-, k2, k3⟩ := isW_k h
    have k2 : kdF t N q = 2 := k2
    have k3 : wdF t N q = wK 18 := k3
    have a := ((wd_eq (by decide) hc.1.1 hc.1.2 k2).mp k3).1
    have b := (kd_2 hc.1.1 hc.1.2 k2).2.1
    have e : gLn 18 = 0 := by decide
    omega
theorem cc_74 {o : Nat} (ho : mcl c.1 o = some 8) (o84 : o ≠ 84) (o0 : o ≠ 0) (ht : TX t N (V 0 0)) (hc : CT t N (V 84) q) (hq : ∀ X, FK (V 84) X → CS t N X (gOn t N (if kiF t N (0, q) = -1 then flw t N (0, q) 1 else (0, q))) → R (some (vB (decide ((gOn t N (if kiF t N (0, q) = -1 then flw t N (0, q) 1 else (0, q))).1 = 0)))) c (sO (sM V o 2 (fun _ => kiF t N (0, q))) 84 X)) : CC 8 74 [vR (some 84), vR (some o)] c V R := by
  refine CC_of mt_74 gb_74 (by decide) (by decide) (rcb_o k_84) (Nat.le_of_ble_eq_true rfl) fun n dd hn hd => ?_
  show WW (bX9_kindWord (gOr n dd)) n [some (vR (some (84))), some (vR (some (o)))] _ _ _
  unfold bX9_kindWord
  have hn0 : 1000000000 ≤ n := hn
  have pch := PE_cI (c := c) (V := V) (L := [some (vR (some 84)), some (vR (some o))]) (PE_aCR (PE_lR (i := 0) rfl) (PE_aCS PE_kS (PE_aCS PE_kS (PE_aCS PE_kS (PE_aCS PE_kS PE_a0))))) hn (pc_63 (i := 10) (j := 11) (k := 12) (l := 13) (by decide) (by decide) (by decide) (by decide) ht hc) (by omega : 7 ≤ dd)
  have ek : (if isW t N (0, q) (wK 10) = true then (0 : Int) else if isW t N (0, q) (wK 11) = true then 1 else if isW t N (0, q) (wK 12) = true then 2 else if isW t N (0, q) (wK 13) = true then 3 else -1) = kiF t N (0, q) := by
    obtain ⟨-, -, ⟨v0, v1, v2, v3, -⟩, -⟩ := wK_e
    rw [v0, v1, v2, v3]
    rfl
  rw [ek] at pch
  obtain ⟨x, hx⟩ : ∃ x, x = kiF t N (0, q) := ⟨_, rfl⟩
  rw [← hx] at pch hq
  refine WW_se (WW_pf rfl (PE_lR rfl) ho pch (SQ_n ?_))
  have w84 : sM V o 2 (fun _ => x) 84 = V 84 := by rw [sM, sO_ne (Ne.symm o84)]
  have w0 : sM V o 2 (fun _ => x) 0 = V 0 := by rw [sM, sO_ne (Ne.symm o0)]
  have hc' : CT t N (sM V o 2 (fun _ => x) 84) q := by rw [w84]; exact hc
  have px := PE_fI (ci := 8) (k := 2) (c := c) (V := sM V o 2 (fun _ => x)) (L := [some (vR (some 84)), some (vR (some o))]) rfl (PE_lR (i := 1) rfl) ho
  rw [sM, sO_at, sF_at, ← sM] at px
  obtain ⟨⟨r0, r1⟩, y1, -, -, y4, -⟩ := id hc
  have nb := (nx_b (t := t) r0 r1).1
  by_cases h : x = -1
  · rw [if_pos h, gO_f (by decide)] at hq
    refine WW_se (WW_if (PE_cz (op := .lt) px) (fun _ => WW_rtBE (EE_cB (PE_aCR (PE_lR rfl) (PE_aCI PE_kI PE_a0)) hn (cc_57 ⟨_, rfl, SQ_s ⟨_, rfl, rfl, ?_⟩⟩) (by omega))) (fun hb => absurd (show x < 0 by omega) (of_decide_eq_false hb)))
    have := hq (sF (sF (V 84) 9 (fun _ => 1)) 10 (fun _ => V 84 3 0)) FK_f (CS_f (f := 1) (by decide) hc)
    rw [decide_eq_false (flw_1 (by decide))] at this
    rw [w84]
    exact this
  · have hb3 := kiF_b (t := t) (N := N) (s := (0, q)) (by rw [← hx]; exact h)
    rw [← hx] at hb3
    rw [if_neg h, gO_0] at hq
    refine WW_se (WW_if (PE_cz (op := .lt) px) (fun hb => absurd (show x < 0 from of_decide_eq_true hb) (by omega)) (fun _ => WW_sk (SQ_n ?_)))
    refine WW_se (WW_cV (PE_aCR (PE_lR rfl) PE_a0) hn (cc_58 (t := t) (N := N) (q := nxF t N q) (by rw [w0]; exact ht) (by rw [w84]; exact y1) (by rw [w84]; exact y4) (by omega) (by omega) fun X3 hf3 hX3 => ⟨rfl, SQ_n (WW_rtB PE_kB ⟨_, rfl, rfl, ?_⟩)⟩) (by omega))
    rw [w84] at hf3
    exact hq X3 hf3.fk ⟨fun _ => hX3, fun z => absurd rfl z⟩
theorem cc_75 {o : Nat} (ho : mcl c.1 o = some 8) (o84 : o ≠ 84) (o0 : o ≠ 0) (ht : TX t N (V 0 0)) (hc : CT t N (V 84) q) (hq : ∀ X, FK (V 84) X → CS t N X (gOn t N (if hbF t N (0, q) = -1 then flw t N (0, q) 1 else (0, q))) → R (some (vB (decide ((gOn t N (if hbF t N (0, q) = -1 then flw t N (0, q) 1 else (0, q))).1 = 0)))) c (sO (sM V o 3 (fun _ => hbF t N (0, q))) 84 X)) : CC 8 75 [vR (some 84), vR (some o)] c V R := by
  refine CC_of mt_75 gb_75 (by decide) (by decide) (rcb_o k_84) (Nat.le_of_ble_eq_true rfl) fun n dd hn hd => ?_
  show WW (bX9_habitWord (gOr n dd)) n [some (vR (some (84))), some (vR (some (o)))] _ _ _
  unfold bX9_habitWord
  have hn0 : 1000000000 ≤ n := hn
  have pch := PE_cI (c := c) (V := V) (L := [some (vR (some 84)), some (vR (some o))]) (PE_aCR (PE_lR (i := 0) rfl) (PE_aCS PE_kS (PE_aCS PE_kS (PE_aCS PE_kS (PE_aCS PE_kS PE_a0))))) hn (pc_63 (i := 15) (j := 16) (k := 17) (l := 18) (by decide) (by decide) (by decide) (by decide) ht hc) (by omega : 7 ≤ dd)
  have ek : (if isW t N (0, q) (wK 15) = true then (0 : Int) else if isW t N (0, q) (wK 16) = true then 1 else if isW t N (0, q) (wK 17) = true then 2 else if isW t N (0, q) (wK 18) = true then 3 else -1) = hbF t N (0, q) := by
    obtain ⟨-, -, -, ⟨v0, v1, v2, -⟩, -⟩ := wK_e
    rw [w18 hc, v0, v1, v2]
    rfl
  rw [ek] at pch
  obtain ⟨x, hx⟩ : ∃ x, x = hbF t N (0, q) := ⟨_, rfl⟩
  rw [← hx] at pch hq
  refine WW_se (WW_pf rfl (PE_lR rfl) ho pch (SQ_n ?_))
  have w84 : sM V o 3 (fun _ => x) 84 = V 84 := by rw [sM, sO_ne (Ne.symm o84)]
  have w0 : sM V o 3 (fun _ => x) 0 = V 0 := by rw [sM, sO_ne (Ne.symm o0)]
  have hc' : CT t N (sM V o 3 (fun _ => x) 84) q := by rw [w84]; exact hc
  have px := PE_fI (ci := 8) (k := 3) (c := c) (V := sM V o 3 (fun _ => x)) (L := [some (vR (some 84)), some (vR (some o))]) rfl (PE_lR (i := 1) rfl) ho
  rw [sM, sO_at, sF_at, ← sM] at px
  obtain ⟨⟨r0, r1⟩, y1, -, -, y4, -⟩ := id hc
  have nb := (nx_b (t := t) r0 r1).1
  by_cases h : x = -1
  · rw [if_pos h, gO_f (by decide)] at hq
    refine WW_se (WW_if (PE_cz (op := .lt) px) (fun _ => WW_rtBE (EE_cB (PE_aCR (PE_lR rfl) (PE_aCI PE_kI PE_a0)) hn (cc_57 ⟨_, rfl, SQ_s ⟨_, rfl, rfl, ?_⟩⟩) (by omega))) (fun hb => absurd (show x < 0 by omega) (of_decide_eq_false hb)))
    have := hq (sF (sF (V 84) 9 (fun _ => 1)) 10 (fun _ => V 84 3 0)) FK_f (CS_f (f := 1) (by decide) hc)
    rw [decide_eq_false (flw_1 (by decide))] at this
    rw [w84]
    exact this
  · have hb3 := hbF_b (t := t) (N := N) (s := (0, q)) (by rw [← hx]; exact h)
    rw [← hx] at hb3
    rw [if_neg h, gO_0] at hq
    refine WW_se (WW_if (PE_cz (op := .lt) px) (fun hb => absurd (show x < 0 from of_decide_eq_true hb) (by omega)) (fun _ => WW_sk (SQ_n ?_)))
    refine WW_se (WW_cV (PE_aCR (PE_lR rfl) PE_a0) hn (cc_58 (t := t) (N := N) (q := nxF t N q) (by rw [w0]; exact ht) (by rw [w84]; exact y1) (by rw [w84]; exact y4) (by omega) (by omega) fun X3 hf3 hX3 => ⟨rfl, SQ_n (WW_rtB PE_kB ⟨_, rfl, rfl, ?_⟩)⟩) (by omega))
    rw [w84] at hf3
    exact hq X3 hf3.fk ⟨fun _ => hX3, fun z => absurd rfl z⟩
end CKH
