/-! THE CLASS'S READER: the colours that a person likes, in order -/
section COR
variable {c : cT} {V : Mem} {g : Nat} {G : oV} {R : Option gAV → cT → Mem → Prop} {t : Int → Int} {N q : Int}
theorem pl_54 {o : Nat} {x m : Int} (ho : mcl c.1 o = some 8) (h4 : V o 4 0 = m) (m0 : 0 ≤ m) (m6 : m ≤ 6) : PC 1 54 [vR (some o), vI x] c V (some (vB (anyB m.toNat (fun i => decide (V o 5 i = x))))) := by
  refine PC_of ?_
  refine CC_of mt_54 gb_54 (by decide) (by decide) (rcb_o ho) (Nat.le_of_ble_eq_true rfl) fun n dd hn hd => ?_
  show WW (bX8_isLiked (gOr n dd)) n [some (vR (some (o))), some (vI (x)), none] _ _ _
  unfold bX8_isLiked
  have hn0 : 1000000000 ≤ n := hn
  refine WW_se (WW_se (WW_st PE_kI (SQ_n ?_)))
  refine WW_for 900000000 0 m (fun j L1 c1 V1 => L1 = [some (vR (some o)), some (vI x), some (vI j)] ∧ c1 = c ∧ V1 = V ∧ ∀ i : Int, 0 ≤ i → i < j → ¬ V o 5 i = x) (by omega) (by omega) (by omega) (by omega) ⟨rfl, rfl, rfl, fun i i0 i1 => by omega⟩ ?_ ?_ ?_
  · rintro j _ c V j0 j1 ⟨rfl, rfl, rfl, hj⟩
    have := PE_fI (ci := 8) (k := 4) (c := c) (V := V) (L := [some (vR (some o)), some (vI x), some (vI j)]) rfl (PE_lR (i := 0) rfl) ho
    rw [h4] at this
    exact ⟨rfl, this⟩
  · rintro j k' _ c V j0 j1 hk' ⟨rfl, rfl, rfl, hj⟩
    have pe := PE_cm (op := .eq) (PE_aF (ty := 0) (ci := 8) (k := 5) (c := c) (V := V) (L := [some (vR (some o)), some (vI x), some (vI j)]) rfl (by decide) (PE_lR (i := 0) rfl) ho (PE_lI (i := 2) rfl) j0 (by omega)) (PE_lI (i := 1) rfl)
    refine WW_if pe (fun hb => ?_) (fun hb => WW_sk (LQ_n ⟨rfl, rfl, rfl, rfl, fun i i0 i1 => ?_⟩))
    · have hb : V o 5 j = x := of_decide_eq_true hb
      have el : anyB m.toNat (fun i => decide (V o 5 i = x)) = true := anyB_iff.mpr ⟨j, j0, by omega, decide_eq_true hb⟩
      rw [el]
      exact WW_rtB PE_kB (LQ_r ⟨_, rfl, rfl, rfl, rfl, rfl⟩)
    · have hb : ¬ V o 5 j = x := of_decide_eq_false hb
      by_cases e : i = j
      · rw [e]; exact hb
      · exact hj i i0 (by omega)
  · rintro _ c V ⟨rfl, rfl, rfl, hj⟩
    have el : anyB m.toNat (fun i => decide (V o 5 i = x)) = false := by
      cases h : anyB m.toNat (fun i => decide (V o 5 i = x)) with
      | false => rfl
      | true =>
        obtain ⟨i, i0, i1, i2⟩ := anyB_iff.mp h
        exact absurd (of_decide_eq_true i2) (hj i i0 (by omega))
    rw [el]
    exact SQ_n (WW_rtB PE_kB ⟨_, rfl, rfl, rfl, rfl, rfl⟩)
theorem lok_6 {k : Int} (g2 : G 2 0 ≤ 6) (h : ∀ i : Int, 0 ≤ i → i < k → lokB t N G q i = true) : k ≤ 6 := by
  have : k - 1 < 6 := by
    refine pig (a := fun j => t (stF t N q + j) - 97) (fun j j0 j1 => ?_) (fun i j i0 ij jk => ?_)
    · have := h j j0 (by omega)
      unfold lokB at this
      simp only [Bool.and_eq_true, decide_eq_true_eq] at this
      obtain ⟨⟨u1, u2⟩, -⟩ := this
      exact ⟨u1, by omega⟩
    · have := h j (by omega) (by omega)
      unfold lokB at this
      simp only [Bool.and_eq_true, Bool.not_eq_true'] at this
      intro e
      have hh : anyB j.toNat (fun i => decide (t (stF t N q + i) = t (stF t N q + j))) = true := anyB_iff.mpr ⟨i, i0, by omega, decide_eq_true (by omega)⟩
      rw [hh] at this
      exact absurd this.2 (by decide)
  omega
theorem cc_77 {s : Int × Int} {o : Nat} (ho : mcl c.1 o = some 8) (o84 : o ≠ 84) (o0 : o ≠ 0) (og : o ≠ g) (hg : mcl c.1 g = some 4) (h8 : V 84 8 0 = (g : Int)) (h2 : V g 2 0 = G 2 0) (g2 : 0 ≤ G 2 0 ∧ G 2 0 ≤ 6) (ht : TX t N (V 0 0)) (hc : CT t N (V 84) q) (e : pG t N G s = (0, q))
    (hq0 : ∀ W, (∀ a, a ≠ 84 → a ≠ o → W a = V a) → FK (V 84) (W 84) → CS t N (W 84) (pJ t N G s) → (pJ t N G s).1 ≠ 0 → R (some (vB false)) c W)
    (hq1 : ∀ W, (∀ a, a ≠ 84 → a ≠ o → W a = V a) → FK (V 84) (W 84) → (∀ j, j ≠ 4 → j ≠ 5 → W o j = V o j) → CT t N (W 84) (nxF t N q) → pJ t N G s = (0, nxF t N q) → pH t N G s = (0, q) → kdF t N q = 2 → W o 4 0 = (lnF t N q : Int) → (∀ i : Int, 0 ≤ i → i < lnF t N q → W o 5 i = t (stF t N q + i) - 97) → R (some (vB true)) c W) : CC 4 77 [vR (some 84), vR (some o)] c V R := by
  obtain ⟨⟨r0, r1⟩, y1, y2, y3, y4, -⟩ := id hc
  obtain ⟨n0, n1⟩ := ht.1
  have nb := nx_b (t := t) r0 r1
  refine CC_of mt_77 gb_77 (by decide) (by decide) (rcb_o k_84) (Nat.le_of_ble_eq_true rfl) fun n dd hn hd => ?_
  show WW (bX9_order (gOr n dd)) n [some (vR (some (84))), some (vR (some (o))), none, none] _ _ _
  unfold bX9_order
  have hn0 : 1000000000 ≤ n := hn
  have p2 := PE_fI (ci := 9) (k := 2) (c := c) (V := V) (L := [some (vR (some 84)), some (vR (some o)), none, none]) rfl (PE_lR (i := 0) rfl) k_84
  rw [y2] at p2
  by_cases k2 : kdF t N q = 2
  rotate_left
  · have f1 : (flw t N (0, q) 1).1 ≠ 0 := flw_1 (by decide)
    have eH : pH t N G s = flw t N (0, q) 1 := by unfold pH; rw [e, if_pos (fun z => k2 z.2)]
    have eI : pI t N G s = flw t N (0, q) 1 := by unfold pI; rw [eH, if_neg (fun z => f1 z.1)]
    have eJ : pJ t N G s = flw t N (0, q) 1 := by unfold pJ; rw [eI, gO_f (by decide)]
    refine WW_se (WW_if (PE_cm (op := .ne) p2 PE_kI) (fun _ => WW_rtBE (EE_cB (PE_aCR (PE_lR rfl) (PE_aCI PE_kI PE_a0)) hn (cc_57 ⟨_, rfl, SQ_s ⟨_, rfl, rfl, ?_⟩⟩) (by omega))) (fun hb => absurd (kdC_1.mp (Classical.not_not.mp (of_decide_eq_false hb))) k2))
    exact hq0 _ (fun a a1 _ => sO_ne a1) (by rw [sO_at]; exact FK_f) (by rw [eJ, sO_at]; exact CS_f (by decide) hc) (by rw [eJ]; exact f1)
  have eH : pH t N G s = (0, q) := by unfold pH; rw [e, if_neg (fun z => z ⟨rfl, k2⟩)]
  obtain ⟨a1, a2, a3, hlet⟩ := kd_2 r0 r1 k2
  refine WW_se (WW_if (PE_cm (op := .ne) p2 PE_kI) (fun hb => absurd (kdC_1.mpr k2) (of_decide_eq_true hb)) (fun _ => WW_sk (SQ_n ?_)))
  refine WW_se (WW_pf rfl (PE_lR rfl) ho PE_kI (SQ_n ?_))
  obtain ⟨A, hA⟩ : ∃ A, A = sM V o 4 (fun _ => 0) := ⟨_, rfl⟩
  rw [← hA]
  have Aa : ∀ a, a ≠ o → A a = V a := fun a ha => by rw [hA, sM, sO_ne ha]
  have A4 : A o 4 0 = 0 := by rw [hA, sM, sO_at, sF_at]
  have Ao : ∀ j, j ≠ 4 → A o j = V o j := fun j hj => by rw [hA, sM, sO_at, sF_ne hj]
  clear hA
  have p3 := PE_fI (ci := 9) (k := 3) (c := c) (V := A) (L := [some (vR (some 84)), some (vR (some o)), none, none]) rfl (PE_lR (i := 0) rfl) k_84
  rw [Aa 84 (Ne.symm o84), y3] at p3
  refine WW_se (WW_se (WW_st p3 (SQ_n ?_)))
  refine WW_for 900000000 (stF t N q) (nxF t N q) (fun j L1 c1 V1 => (∃ z3 : Option gAV, L1 = [some (vR (some 84)), some (vR (some o)), some (vI j), z3]) ∧ c1 = c ∧ (∀ a, a ≠ o → V1 a = V a) ∧ (∀ k, k ≠ 4 → k ≠ 5 → V1 o k = V o k) ∧ V1 o 4 0 = j - stF t N q ∧ (∀ i : Int, 0 ≤ i → i < j - stF t N q → V1 o 5 i = t (stF t N q + i) - 97) ∧ ∀ i : Int, 0 ≤ i → i < j - stF t N q → lokB t N G q i = true) (by omega) (by omega) (by omega) (by omega) ⟨⟨none, rfl⟩, rfl, Aa, fun k h4 _ => Ao k h4, by rw [A4]; omega, fun i i0 i1 => by omega, fun i i0 i1 => by omega⟩ ?_ ?_ ?_
  · rintro j _ c W j0 j1 ⟨⟨z3, rfl⟩, rfl, wa, wo, w4, w5, hok⟩
    have := PE_fI (ci := 9) (k := 4) (c := c) (V := W) (L := [some (vR (some 84)), some (vR (some o)), some (vI j), z3]) rfl (PE_lR (i := 0) rfl) k_84
    rw [wa 84 (Ne.symm o84), y4] at this
    exact ⟨rfl, this⟩
  · rintro j k' _ c W j0 j1 hk' ⟨⟨z3, rfl⟩, rfl, wa, wo, w4, w5, hok⟩
    obtain ⟨k, hk⟩ : ∃ k, k = j - stF t N q := ⟨_, rfl⟩
    rw [← hk] at w4 w5 hok
    have ej : j = stF t N q + k := by omega
    have k0 : 0 ≤ k := by omega
    have kl : k < lnF t N q := by omega
    have pt := PE_aT (c := c) (V := W) (L := [some (vR (some 84)), some (vR (some o)), some (vI j), z3]) (PE_lR (i := 0) rfl) k_84 (PE_lI (i := 2) rfl) (show 0 ≤ j by omega) (by omega)
    rw [wa 0 (Ne.symm o0), (ht.2 j (by omega) (by omega)).1] at pt
    have hl := hlet k k0 kl
    rw [← ej] at hl
    have ps := PE_o2 (f := zSub) pt (PE_kI (z := 97))
    rw [zSub_id (by omega) (by omega)] at ps
    refine WW_se (WW_st ps (SQ_n ?_))
    have pg := PE_fI (ci := 4) (k := 2) (c := c) (V := W) (L := [some (vR (some 84)), some (vR (some o)), some (vI j), some (vI (t j - 97))]) rfl (PE_fP (ci := 9) (k := 8) rfl (PE_lR (i := 0) rfl) k_84 (show W 84 8 0 = (g : Int) by rw [wa 84 (Ne.symm o84)]; exact h8)) hg
    rw [wa g (Ne.symm og), h2] at pg
    have k6 := lok_6 g2.2 hok
    have pl := PE_cB (c := c) (V := W) (L := [some (vR (some 84)), some (vR (some o)), some (vI j), some (vI (t j - 97))]) (PE_aCR (PE_lR (i := 1) rfl) (PE_aCI (PE_lI (i := 3) rfl) PE_a0)) hn (pl_54 (x := t j - 97) ho w4 k0 k6) (by omega : 1 ≤ dd)
    have p4 := PE_fI (ci := 8) (k := 4) (c := c) (V := W) (L := [some (vR (some 84)), some (vR (some o)), some (vI j), some (vI (t j - 97))]) rfl (PE_lR (i := 1) rfl) ho
    rw [w4] at p4
    have pc3 := PE_or (PE_or (PE_cm (op := .ge) (PE_lI (i := 3) rfl) pg) (fun _ => pl)) (fun _ => PE_cm (op := .ge) p4 (PE_kI (z := 6)))
    have ea : anyB k.toNat (fun i => decide (W o 5 i = t j - 97)) = anyB k.toNat (fun i => decide (t (stF t N q + i) = t (stF t N q + k))) := anyB_congr fun i i0 i1 => by
      rw [w5 i i0 (by omega), ← ej]
      exact decide_eq_decide.mpr ⟨fun z => by omega, fun z => by omega⟩
    rw [ea] at pc3
    cases hlk : lokB t N G q k with
    | true =>
      have hok' : ∀ i : Int, 0 ≤ i → i < k + 1 → lokB t N G q i = true := fun i i0 i1 => by
        by_cases ei : i = k
        · rw [ei]; exact hlk
        · exact hok i i0 (by omega)
      have k6' := lok_6 g2.2 hok'
      have hlk2 := hlk
      unfold lokB at hlk2
      simp only [Bool.and_eq_true, decide_eq_true_eq, Bool.not_eq_true'] at hlk2
      obtain ⟨⟨u1, u2⟩, u3⟩ := hlk2
      rw [← ej] at u2
      have ef : ((cmB ClassFile.Cond.ge (t j - 97) (G 2 0) || anyB k.toNat (fun i => decide (t (stF t N q + i) = t (stF t N q + k)))) || cmB ClassFile.Cond.ge k 6) = false := by
        have c1 : cmB ClassFile.Cond.ge (t j - 97) (G 2 0) = false := decide_eq_false (by omega)
        have c2 : cmB ClassFile.Cond.ge k 6 = false := decide_eq_false (by omega)
        rw [u3, c1, c2]
        rfl
      rw [ef] at pc3
      refine WW_se (WW_if pc3 (fun hb => by cases hb) (fun _ => WW_sk (SQ_n ?_)))
      refine WW_se (WW_asF (ty := 0) (z := t j - 97) rfl (by decide) (PE_lR rfl) ho p4 k0 (by omega) (PE_lI rfl) rfl (SQ_n ?_))
      obtain ⟨U, hU⟩ : ∃ U, U = sM W o 5 (gUz (W o 5) k (t j - 97)) := ⟨_, rfl⟩
      rw [← hU]
      have U4 : U o 4 0 = k := by rw [hU, sM, sO_at, sF_ne (by decide)]; exact w4
      refine WW_pu rfl (PE_lR rfl) ho PE_kI (LQ_n ⟨rfl, ⟨some (vI (t j - 97)), rfl⟩, rfl, fun a ha => ?_, fun k1 h4 h5 => ?_, ?_, fun i i0 i1 => ?_, fun i i0 i1 => ?_⟩)
      · rw [sM, sO_ne ha, hU, sM, sO_ne ha]; exact wa a ha
      · rw [sM, sO_at, sF_ne h4, hU, sM, sO_at, sF_ne h5]; exact wo k1 h4 h5
      · rw [sM, sO_at, sF_at, U4, zAdd_id (by omega) (by omega)]; omega
      · rw [sM, sO_at, sF_ne (by decide), hU, sM, sO_at, sF_at]
        by_cases ei : i = k
        · rw [ei, gUz_at, ← ej]
        · rw [gUz_ne ei]; exact w5 i i0 (by omega)
      · exact hok' i i0 (by omega)
    | false =>
      have et : ((cmB ClassFile.Cond.ge (t j - 97) (G 2 0) || anyB k.toNat (fun i => decide (t (stF t N q + i) = t (stF t N q + k)))) || cmB ClassFile.Cond.ge k 6) = true := by
        cases h1 : cmB ClassFile.Cond.ge (t j - 97) (G 2 0) with
        | true => rfl
        | false =>
          cases h3 : anyB k.toNat (fun i => decide (t (stF t N q + i) = t (stF t N q + k))) with
          | true => rfl
          | false =>
            exfalso
            have h1 : ¬ t j - 97 ≥ G 2 0 := of_decide_eq_false h1
            have : lokB t N G q k = true := by
              unfold lokB
              rw [h3, ← ej, decide_eq_true (by omega), decide_eq_true (by omega)]
              rfl
            rw [hlk] at this
            cases this
      have eI : pI t N G s = flw t N (0, q) 7 := by
        unfold pI
        rw [eH, if_pos ⟨rfl, anyB_iff.mpr ⟨k, k0, kl, by show (!(lokB t N G q k)) = true; rw [hlk]; rfl⟩⟩]
      have eJ : pJ t N G s = flw t N (0, q) 7 := by unfold pJ; rw [eI, gO_f (by decide)]
      rw [et] at pc3
      refine WW_se (WW_if pc3 (fun _ => WW_rtBE (EE_cB (PE_aCR (PE_lR rfl) (PE_aCI PE_kI PE_a0)) hn (cc_57 ⟨_, rfl, SQ_s (LQ_r ⟨_, rfl, rfl, ?_⟩)⟩) (by omega))) (fun hb => by cases hb))
      refine hq0 _ (fun a a1 a2 => by rw [sO_ne a1]; exact wa a a2) (by rw [sO_at, wa 84 (Ne.symm o84)]; exact FK_f) ?_ (by rw [eJ]; exact flw_1 (by decide))
      rw [eJ, sO_at, wa 84 (Ne.symm o84)]
      exact CS_f (by decide) hc
  · rintro _ c W ⟨⟨z3, rfl⟩, rfl, wa, wo, w4, w5, hok⟩
    have eI : pI t N G s = (0, q) := by
      unfold pI
      rw [eH, if_neg]
      rintro ⟨-, z⟩
      obtain ⟨i, i0, i1, i2⟩ := anyB_iff.mp z
      have i1 : i < (lnF t N q : Int) := i1
      have i2 : (!(lokB t N G q i)) = true := i2
      rw [hok i i0 (by omega)] at i2
      cases i2
    have eJ : pJ t N G s = (0, nxF t N q) := by unfold pJ; rw [eI, gO_0]
    refine SQ_n (WW_se (WW_cV (PE_aCR (PE_lR rfl) PE_a0) hn (cc_58 (t := t) (N := N) (q := nxF t N q) (by rw [wa 0 (Ne.symm o0)]; exact ht) (by rw [wa 84 (Ne.symm o84)]; exact y1) (by rw [wa 84 (Ne.symm o84)]; exact y4) (by omega) (by omega) fun X3 hf3 hX3 => ⟨rfl, SQ_n (WW_rtB PE_kB ⟨_, rfl, rfl, ?_⟩)⟩) (by omega)))
    rw [wa 84 (Ne.symm o84)] at hf3
    exact hq1 _ (fun a a1 a2 => by rw [sO_ne a1]; exact wa a a2) (by rw [sO_at]; exact hf3.fk) (fun j j4 j5 => by rw [sO_ne o84]; exact wo j j4 j5) (by rw [sO_at]; exact hX3) eJ eH k2 (by rw [sO_ne o84, w4]; omega) (fun i i0 i1 => by rw [sO_ne o84]; exact w5 i i0 (by omega))
end COR
