/-! THE CLASS'S READER: whether a person takes -/
section CTA
variable {c : cT} {V : Mem} {R : Option gAV → cT → Mem → Prop} {t : Int → Int} {N q : Int}
theorem cc_76 {o : Nat} (ho : mcl c.1 o = some 8) (o84 : o ≠ 84) (o0 : o ≠ 0) (ht : TX t N (V 0 0)) (hc : CT t N (V 84) q) (hq : ∀ X, FK (V 84) X → CS t N X (gOn t N (if isW t N (0, q) (wK 48) = false ∧ isW t N (0, q) (wK 49) = false then flw t N (0, q) 1 else (0, q))) → R (some (vB (decide ((gOn t N (if isW t N (0, q) (wK 48) = false ∧ isW t N (0, q) (wK 49) = false then flw t N (0, q) 1 else (0, q))).1 = 0)))) c (sO (sM V o 8 (fun _ => if isW t N (0, q) (wK 48) = true then 1 else 0)) 84 X)) : CC 7 76 [vR (some 84), vR (some o)] c V R := by
  obtain ⟨-, -, -, -, -, -, -, v0, v1, -⟩ := wK_e
  refine CC_of mt_76 gb_76 (by decide) (by decide) (rcb_o k_84) (Nat.le_of_ble_eq_true rfl) fun n dd hn hd => ?_
  show WW (bX9_takesWord (gOr n dd)) n [some (vR (some (84))), some (vR (some (o)))] _ _ _
  unfold bX9_takesWord
  have hn0 : 1000000000 ≤ n := hn
  have p23 := PE_cB (c := c) (V := V) (L := [some (vR (some 84)), some (vR (some o))]) (PE_aCR (PE_lR (i := 0) rfl) (PE_aCS PE_kS PE_a0)) hn (pc_61 (i := 23) (by decide) ht hc) (by omega : 6 ≤ dd)
  rw [v0] at p23
  obtain ⟨x, hx⟩ : ∃ x, x = isW t N (0, q) (wK 48) := ⟨_, rfl⟩
  rw [← hx] at p23 hq
  refine WW_se (WW_pfB rfl (PE_lR rfl) ho p23 (SQ_n ?_))
  obtain ⟨W, hW⟩ : ∃ W, W = sM V o 8 (fun _ => if x = true then 1 else 0) := ⟨_, rfl⟩
  rw [← hW] at hq ⊢
  have w84 : W 84 = V 84 := by rw [hW, sM, sO_ne (Ne.symm o84)]
  have w0 : W 0 = V 0 := by rw [hW, sM, sO_ne (Ne.symm o0)]
  have w8 : W o 8 0 = if x = true then 1 else 0 := by rw [hW, sM, sO_at, sF_at]
  have hc' : CT t N (W 84) q := by rw [w84]; exact hc
  have p24 := PE_cB (c := c) (V := W) (L := [some (vR (some 84)), some (vR (some o))]) (PE_aCR (PE_lR (i := 0) rfl) (PE_aCS PE_kS PE_a0)) hn (pc_61 (i := 24) (by decide) (by rw [w0]; exact ht) hc') (by omega : 6 ≤ dd)
  rw [v1] at p24
  have px := PE_fB (ci := 8) (k := 8) (c := c) (V := W) (L := [some (vR (some 84)), some (vR (some o))]) rfl (PE_lR (i := 1) rfl) ho w8
  have pc := PE_and (PE_not px) (fun _ => PE_not p24)
  obtain ⟨⟨r0, r1⟩, y1, -, -, y4, -⟩ := id hc
  have nb := (nx_b (t := t) r0 r1).1
  by_cases h : x = false ∧ isW t N (0, q) (wK 49) = false
  · rw [if_pos h, gO_f (by decide)] at hq
    rw [h.1, h.2] at pc
    refine WW_se (WW_if pc (fun _ => WW_rtBE (EE_cB (PE_aCR (PE_lR rfl) (PE_aCI PE_kI PE_a0)) hn (cc_57 ⟨_, rfl, SQ_s ⟨_, rfl, rfl, ?_⟩⟩) (by omega))) (fun hb => by cases hb))
    have := hq (sF (sF (V 84) 9 (fun _ => 1)) 10 (fun _ => V 84 3 0)) FK_f (CS_f (f := 1) (by decide) hc)
    rw [decide_eq_false (flw_1 (by decide))] at this
    rw [w84]
    exact this
  · rw [if_neg h, gO_0] at hq
    have ef : (!x && !(isW t N (0, q) (wK 49))) = false := by
      cases x <;> cases h9 : isW t N (0, q) (wK 49)
      · exact absurd ⟨rfl, h9⟩ h
      all_goals rfl
    rw [ef] at pc
    refine WW_se (WW_if pc (fun hb => by cases hb) (fun _ => WW_sk (SQ_n ?_)))
    refine WW_se (WW_cV (PE_aCR (PE_lR rfl) PE_a0) hn (cc_58 (t := t) (N := N) (q := nxF t N q) (by rw [w0]; exact ht) (by rw [w84]; exact y1) (by rw [w84]; exact y4) (by omega) (by omega) fun X3 hf3 hX3 => ⟨rfl, SQ_n (WW_rtB PE_kB ⟨_, rfl, rfl, ?_⟩)⟩) (by omega))
    rw [w84] at hf3
    exact hq X3 hf3.fk ⟨fun _ => hX3, fun z => absurd rfl z⟩
end CTA
