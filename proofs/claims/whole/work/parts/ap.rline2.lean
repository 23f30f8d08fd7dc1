/-! THE REFERENCE'S READER: seen, person -/
theorem pig {a : Int → Int} {k : Int} (h1 : ∀ j, 0 ≤ j → j ≤ k → 0 ≤ a j ∧ a j < 6) (h2 : ∀ i j, 0 ≤ i → i < j → j ≤ k → a i ≠ a j) : k < 6 := by
  by_cases hk : k < 6
  · exact hk
  exfalso
  have one : ∀ v : Int, cnt 7 (fun j => decide (a j = v)) ≤ 1 := fun v => cnt_one fun i j i0 i1 i2 p q => h2 i j i0 i1 (by omega) ((of_decide_eq_true p).trans (of_decide_eq_true q).symm)
  have st : ∀ v : Int, cnt 7 (fun j => decide (v ≤ a j)) ≤ cnt 7 (fun j => decide (a j = v)) + cnt 7 (fun j => decide (v + 1 ≤ a j)) := fun v => cnt_or fun j j0 j1 p => by
    have p : v ≤ a j := of_decide_eq_true p
    by_cases e : a j = v
    · exact Or.inl (decide_eq_true e)
    · exact Or.inr (decide_eq_true (by omega))
  have e0 : cnt 7 (fun j => decide (0 ≤ a j)) = cnt 7 (fun _ => true) := cnt_congr fun j j0 j1 => decide_eq_true (h1 j j0 (by omega)).1
  have e6 : cnt 7 (fun j => decide ((5 : Int) + 1 ≤ a j)) = cnt 7 (fun _ => false) := cnt_congr fun j j0 j1 => decide_eq_false (by have := (h1 j j0 (by omega)).2; omega)
  have t7 : cnt 7 (fun _ => true) = 7 := rfl
  have f7 : cnt 7 (fun _ => false) = 0 := rfl
  have s0 := st 0
  have s1 := st 1
  have s2 := st 2
  have s3 := st 3
  have s4 := st 4
  have s5 := st 5
  have o0 := one 0
  have o1 := one 1
  have o2' := one 2
  have o3 := one 3
  have o4 := one 4
  have o5 := one 5
  have r1 : (0 : Int) + 1 = 1 := rfl
  have r2 : (1 : Int) + 1 = 2 := rfl
  have r3 : (2 : Int) + 1 = 3 := rfl
  have r4 : (3 : Int) + 1 = 4 := rfl
  have r5 : (4 : Int) + 1 = 5 := rfl
  rw [e6, f7] at s5
  rw [r1] at s0
  rw [r2] at s1
  rw [r3] at s2
  rw [r4] at s3
  rw [r5] at s4
  rw [e0, t7] at s0
  omega
theorem sF_sF {S : oV} {k : Nat} {f g : Int → Int} : sF (sF S k f) k g = sF S k g := by
  funext j
  unfold sF
  split <;> rfl
/-! seen -/
def qA (t : Int → Int) (N : Int) (G : oV) (s : Int × Int) : Int × Int := bgS t N G s (G 6 0) 6
def qB (t : Int → Int) (N : Int) (G : oV) (s : Int × Int) : Int × Int := rdS t N (qA t N G s) 0 (G 0 0 - 1)
def qC (t : Int → Int) (N : Int) (G : oV) (s : Int × Int) : Int × Int := if ¬ ((qB t N G s).1 = 0 ∧ kdF t N (qB t N G s).2 = 2) then flw t N (qB t N G s) 1 else qB t N G s
def qD (t : Int → Int) (N : Int) (G : oV) (s : Int × Int) : Int × Int := if (qC t N G s).1 = 0 ∧ ¬ (lnF t N (qC t N G s).2 : Int) = G 1 0 then flw t N (qC t N G s) 7 else qC t N G s
def sokB (t : Int → Int) (N : Int) (G : oV) (q k : Int) : Bool := decide (t (stF t N q + k) = 122) || (decide (0 ≤ t (stF t N q + k) - 97) && decide (t (stF t N q + k) - 97 ≤ G 2 0 - 1))
def scF (t : Int → Int) (N q k : Int) : Int := if t (stF t N q + k) = 122 then -2 else t (stF t N q + k) - 97
def qE (t : Int → Int) (N : Int) (G : oV) (s : Int × Int) : Int × Int := if (qD t N G s).1 = 0 ∧ anyB (G 1 0).toNat (fun k => !(sokB t N G (qD t N G s).2 k)) = true then flw t N (qD t N G s) 7 else qD t N G s
def qF (t : Int → Int) (N : Int) (G : oV) (s : Int × Int) : Int × Int := gOn t N (qE t N G s)
def snW (t : Int → Int) (N : Int) (G : oV) (q : Int) (n : Nat) : Int → Int := it (fun k f => gUz f (8 * G 6 0 + k) (scF t N q k)) n (G 23)
def qZ (t : Int → Int) (N : Int) (G : oV) (s : Int × Int) : oV := sF (sF (sF G 23 (snW t N G (qD t N G s).2 (G 1 0).toNat)) 22 (gUz (G 22) (G 6 0) (bnV t N (qA t N G s) 0 (G 0 0 - 1)))) 6 (fun _ => G 6 0 + 1)
section RN2
variable {c : cT} {V : Mem} {r : Nat} {R : Option gAV → cT → Mem → Prop} {t : Int → Int} {N : Int} {s : Int × Int}
theorem cc_201 (hr : RD c V r) (ht : TX t N (V 305 5)) (hg : GQ (V r)) (hs : RS t N (V 305) s) (hk : s.1 = 0 → kdF t N s.2 = 2) (hq : ∀ X Z, FrT (V 305) X → RS t N X (qF t N (V r) s) → ((qF t N (V r) s).1 = 0 → Z = qZ t N (V r) s) → R none c (MR V r X Z)) : CC 11 201 [vR (some 305)] c V R := by
  have h5 := hr.2.2
  obtain ⟨g0, g1, g2, -, -, g6, -⟩ := id hg
  refine CC_of mt_201 gb_201 (by decide) (by decide) (rcb_o k_305) (Nat.le_of_ble_eq_true rfl) fun n dd hn hd => ?_
  show WW (bX13_readSeen (gOr n dd)) n [some (vR (some (305))), none, none, none] _ _ _
  unfold bX13_readSeen
  have hn0 : 1000000000 ≤ n := hn
  refine WW_eq (MR_id h5).symm ?_
  have pd : ∀ {L : gLo} {X : oV}, FrT (V 305) X → L[0]? = some (some (vR (some 305))) → PE (o2 zSub (fI 12 0 (fR 13 4 (lR 0))) (kI 1)) L c (MR V r X (V r)) (V r 0 0 - 1) := fun {L X} hf hl => by
    have := PE_o2 (f := zSub) (rl_G (Z := V r) (k := 0) hr hf hl rfl) (PE_kI (z := 1))
    rwa [zSub_id (by omega) (by omega)] at this
  refine WW_se (WW_se (rl_193 (b := 6) hr ht hn (by omega) rfl (rl_G hr FrT.rf rfl rfl) FrT.rf hs (fun q => by have := hk q; omega) fun X1 hf1 h1 => SQ_n ?_))
  refine WW_se (rl_190 (s := qA t N (V r) s) ht hn (by omega) rfl PE_kI (pd hf1 rfl) hf1 h1 fun X2 hf2 h2 => SQ_n ?_)
  obtain ⟨v1, hv1⟩ : ∃ v1, v1 = bnV t N (qA t N (V r) s) 0 (V r 0 0 - 1) := ⟨_, rfl⟩
  rw [← hv1]
  have h2 : RS t N X2 (qB t N (V r) s) := h2
  refine WW_se (rl_if (by decide) (rl_nw rfl h2) hn (by omega) rfl hf2 h2 fun X3 hf3 h3 => SQ_n ?_)
  simp only [decide_eq_true_eq] at h3
  have h3 : RS t N X3 (qC t N (V r) s) := h3
  have e13 : (qC t N (V r) s).1 = 0 → X3 13 0 = (lnF t N (qC t N (V r) s).2 : Int) := fun q => by
    have k2 : kdF t N (qC t N (V r) s).2 = 2 := by
      unfold qC at q ⊢
      by_cases z : ¬ ((qB t N (V r) s).1 = 0 ∧ kdF t N (qB t N (V r) s).2 = 2)
      · rw [if_pos z] at q; exact absurd q (flw_1 (by decide))
      · rw [if_neg z]
        exact (Classical.not_not.mp z).2
    exact ((h3.2.1 q).2.2.2.2.2.2.2.2 k2).1
  have p13 := PE_and (rl_no (V := V) (r := r) (Z := V r) (c := c) (L := [some (vR (some 305)), some (vI v1), none, none]) rfl h3) (fun _ => PE_cm (op := .ne) (rl_f (k := 13) rfl rfl) (rl_G (k := 1) hr hf3 rfl rfl))
  refine WW_se (rl_if (by decide) p13 hn (by omega) rfl hf3 h3 fun X4 hf4 h4 => SQ_n ?_)
  have eif : (if (decide ((qC t N (V r) s).1 = 0) && cmB ClassFile.Cond.ne (X3 13 0) (V r 1 0)) = true then flw t N (qC t N (V r) s) 7 else qC t N (V r) s) = qD t N (V r) s := by
    unfold qD
    by_cases z : (qC t N (V r) s).1 = 0
    · rw [decide_eq_true z, Bool.true_and, e13 z]
      simp only [cmB, decide_eq_true_eq, z, true_and]
    · rw [decide_eq_false z, Bool.false_and, if_neg (by decide), if_neg (fun y => z y.1)]
  rw [eif] at h4
  -- the letters
  have hD : (qD t N (V r) s).1 = 0 → kdF t N (qD t N (V r) s).2 = 2 ∧ (lnF t N (qD t N (V r) s).2 : Int) = V r 1 0 := fun q => by
    unfold qD at q ⊢
    by_cases z : (qC t N (V r) s).1 = 0 ∧ ¬ (lnF t N (qC t N (V r) s).2 : Int) = V r 1 0
    · rw [if_pos z] at q; exact absurd q (flw_1 (by decide))
    · rw [if_neg z] at q ⊢
      refine ⟨?_, ?_⟩
      · unfold qC at q ⊢
        by_cases y : ¬ ((qB t N (V r) s).1 = 0 ∧ kdF t N (qB t N (V r) s).2 = 2)
        · rw [if_pos y] at q; exact absurd q (flw_1 (by decide))
        · rw [if_neg y]
          exact (Classical.not_not.mp y).2
      · by_cases y : (lnF t N (qC t N (V r) s).2 : Int) = V r 1 0
        · exact y
        · exact absurd ⟨q, y⟩ z
  obtain ⟨w, hw⟩ : ∃ w, w = qD t N (V r) s := ⟨_, rfl⟩
  rw [← hw] at h4 hD
  have h6l : w.1 = 0 → V r 6 0 < 6 := fun q => by
    rw [hw] at q
    unfold qD at q
    by_cases z : (qC t N (V r) s).1 = 0 ∧ ¬ (lnF t N (qC t N (V r) s).2 : Int) = V r 1 0
    · rw [if_pos z] at q; exact absurd q (flw_1 (by decide))
    · rw [if_neg z] at q
      unfold qC at q
      by_cases y : ¬ ((qB t N (V r) s).1 = 0 ∧ kdF t N (qB t N (V r) s).2 = 2)
      · rw [if_pos y] at q; exact absurd q (flw_1 (by decide))
      · rw [if_neg y] at q
        have := (bgS_k (rdS_k q).1).2.1
        omega
  have eE : qE t N (V r) s = if w.1 = 0 ∧ anyB (V r 1 0).toNat (fun k => !(sokB t N (V r) w.2 k)) = true then flw t N w 7 else w := by unfold qE; rw [← hw]
  have fin : ∀ {X Z : oV} {z2 z3 : Option gAV}, FrT (V 305) X → RS t N X (qE t N (V r) s) → ((qE t N (V r) s).1 = 0 → Z = sF (V r) 23 (snW t N (V r) w.2 (V r 1 0).toNat)) → WW (seS (cV (gOr n dd) 183 (aCR (lR 0) (a0))) (seS (ifS (cmC .eq (fI 13 9 (lR 0)) (kI 5)) (rtV) skS) (seS (asI 0 (fR 12 22 (fR 13 4 (lR 0))) (fI 12 6 (fR 13 4 (lR 0))) (lI 1)) (puI 12 6 zAdd (fR 13 4 (lR 0)) (kI 1))))) n [some (vR (some 305)), some (vI v1), z2, z3] c (MR V r X Z) (SQ rtV n (fun ex _ c' V' => ∃ v, ex = some (3, v) ∧ gRtB none v = true ∧ R v c' V')) := by
    intro X Z z2 z3 hf h1 hz
    have hon' : (qE t N (V r) s).1 = 0 → qE t N (V r) s = w ∧ w.1 = 0 := fun q => by
      rw [eE] at q ⊢
      by_cases y : w.1 = 0 ∧ anyB (V r 1 0).toNat (fun k => !(sokB t N (V r) w.2 k)) = true
      · rw [if_pos y] at q; exact absurd q (flw_1 (by decide))
      · rw [if_neg y] at q ⊢
        exact ⟨rfl, q⟩
    refine WW_se (rl_183 hr ht hn (by omega) rfl hf h1 (fun q => ?_) fun X6 hf6 h6 => SQ_n ?_)
    · rw [(hon' q).1, (hD (hon' q).2).1]
      decide
    have h6 : RS t N X6 (qF t N (V r) s) := h6
    refine WW_se (WW_if (rl_ov rfl h6) (fun hb => WW_rtV (SQ_s (SQ_s ⟨_, rfl, rfl, hq X6 Z hf6 h6 fun q => absurd q (of_decide_eq_true hb)⟩))) (fun hbo => WW_sk (SQ_n ?_)))
    have hon : (qF t N (V r) s).1 = 0 := Classical.not_not.mp (of_decide_eq_false hbo)
    have honE : (qE t N (V r) s).1 = 0 := by
      unfold qF at hon
      rw [gOn_1] at hon
      exact hon
    have hz' := hz honE
    subst hz'
    have h6l' := h6l (hon' honE).2
    have q1 := rl_G (Z := sF (V r) 23 (snW t N (V r) w.2 (V r 1 0).toNat)) (k := 6) (L := [some (vR (some 305)), some (vI v1), z2, z3]) hr hf6 rfl rfl
    rw [sF_ne (by decide)] at q1
    refine WW_se (WW_asF (ty := 0) (z := v1) rfl (by decide) (rl_g hr hf6 rfl) hr.2.1 q1 g6.1 h6l' (PE_lI rfl) rfl (SQ_n ?_))
    rw [MR_z h5, MR_r h5, sF_ne (show (22 : Nat) ≠ 23 by decide)]
    refine WW_pu rfl (rl_g hr hf6 rfl) hr.2.1 PE_kI (SQ_n (WW_rtV ⟨_, rfl, rfl, ?_⟩))
    rw [MR_z h5, MR_r h5, sF_ne (show (6 : Nat) ≠ 22 by decide), sF_ne (show (6 : Nat) ≠ 23 by decide), zAdd_id (by omega) (by omega)]
    refine hq X6 _ hf6 h6 fun _ => ?_
    unfold qZ
    rw [← hv1, ← hw]
  refine WW_se (WW_se (WW_st PE_kI (SQ_n ?_)))
  refine WW_wh 900000000 (fun m L1 c1 V1 => ∃ (k : Int) (X Z : oV) (z3 : Option gAV), 0 ≤ k ∧ k ≤ V r 1 0 ∧ L1 = [some (vR (some 305)), some (vI v1), some (vI k), z3] ∧ c1 = c ∧ V1 = MR V r X Z ∧ FrT (V 305) X ∧ Z 1 = V r 1 ∧ ((m = (V r 1 0 - k).toNat + 1 ∧ RS t N X w ∧ Z = sF (V r) 23 (snW t N (V r) w.2 k.toNat) ∧ ∀ j : Int, 0 ≤ j → j < k → sokB t N (V r) w.2 j = true) ∨ (m = 0 ∧ RS t N X (qE t N (V r) s) ∧ ¬ (qE t N (V r) s).1 = 0))) ?_ ((V r 1 0 - 0).toNat + 1) _ _ _ _ (by omega) ⟨0, X4, V r, none, by omega, by omega, rfl, rfl, rfl, hf4, rfl, Or.inl ⟨rfl, h4, ?_, fun j j0 j1 => by omega⟩⟩
  rotate_left
  · show V r = sF (V r) 23 (V r 23)
    funext k
    unfold sF
    split
    · rename_i e; rw [e]
    · rfl
  rintro m k1 _ c _ hk1 ⟨k, X, Z, z3, k0, kP, rfl, rfl, rfl, hf, hZ1, hcase⟩
  have pp : PE (fI 12 1 (fR 13 4 (lR 0))) [some (vR (some 305)), some (vI v1), some (vI k), z3] c (MR V r X Z) (V r 1 0) := by
    have := rl_G (V := V) (Z := Z) (k := 1) (L := [some (vR (some 305)), some (vI v1), some (vI k), z3]) hr hf rfl rfl
    rwa [hZ1] at this
  rcases hcase with ⟨rfl, hX, rfl, hok⟩ | ⟨rfl, hX, hov⟩
  · have hcond := PE_and (PE_cm (op := .lt) (PE_lI (i := 2) rfl) pp) (fun _ => rl_no rfl hX)
    by_cases hgo : k < V r 1 0 ∧ w.1 = 0
    · have et : (cmB ClassFile.Cond.lt k (V r 1 0) && decide (w.1 = 0)) = true := by
        rw [decide_eq_true hgo.2, Bool.and_true]
        exact decide_eq_true hgo.1
      rw [et] at hcond
      refine EE_pe hcond ⟨fun _ => ?_, fun q => by cases q⟩
      obtain ⟨k2, eln⟩ := hD hgo.2
      have h6l' := h6l hgo.2
      obtain ⟨⟨q0, q1⟩, -, -, -, -, -, -, -, hw2⟩ := hX.2.1 hgo.2
      have hlet := (kd_2 q0 q1 k2).2.2.2 k k0 (by omega)
      have h16 := (hw2 k2).2.2 k k0 (by omega)
      have p16 := PE_aF (ty := 0) (ci := 13) (k := 16) (c := c) (V := MR V r X (sF (V r) 23 (snW t N (V r) w.2 k.toNat))) (L := [some (vR (some 305)), some (vI v1), some (vI k), z3]) rfl (by decide) (PE_lR (i := 0) rfl) k_305 (PE_lI (i := 2) rfl) k0 (by omega)
      rw [MR_5, h16] at p16
      have esc : (if cmB ClassFile.Cond.eq (t (stF t N w.2 + k)) 122 = true then -2 else zSub (t (stF t N w.2 + k)) 97) = scF t N w.2 k := by
        unfold scF
        rw [zSub_id (by omega) (by omega)]
        simp [cmB]
      refine WW_se (WW_st (PE_ite (PE_cm (op := .eq) p16 PE_kI) (fun _ => PE_kI) (fun _ => PE_o2 (f := zSub) p16 PE_kI)) (SQ_n ?_))
      rw [esc]
      have pc2 : PE (o2 zSub (fI 12 2 (fR 13 4 (lR 0))) (kI 1)) [some (vR (some 305)), some (vI v1), some (vI k), some (vI (scF t N w.2 k))] c (MR V r X (sF (V r) 23 (snW t N (V r) w.2 k.toNat))) (V r 2 0 - 1) := by
        have := PE_o2 (f := zSub) (rl_G (V := V) (Z := sF (V r) 23 (snW t N (V r) w.2 k.toNat)) (k := 2) (L := [some (vR (some 305)), some (vI v1), some (vI k), some (vI (scF t N w.2 k))]) hr hf rfl rfl) (PE_kI (z := 1))
        rwa [sF_ne (by decide), zSub_id (by omega) (by omega)] at this
      have hc2 := PE_and (PE_cm (op := .ne) (PE_lI (i := 3) (L := [some (vR (some 305)), some (vI v1), some (vI k), some (vI (scF t N w.2 k))]) (c := c) (V := MR V r X (sF (V r) 23 (snW t N (V r) w.2 k.toNat))) rfl) (PE_kI (z := -2))) (fun _ => PE_not (PE_cB (PE_aCI (PE_lI (i := 3) rfl) (PE_aCI (PE_kI (z := 0)) (PE_aCI pc2 PE_a0))) hn (pc_176 (c := c)) (by omega : 1 ≤ dd)))
      have eb : (cmB ClassFile.Cond.ne (scF t N w.2 k) (-2) && !(decide (0 ≤ scF t N w.2 k) && decide (scF t N w.2 k ≤ V r 2 0 - 1))) = !(sokB t N (V r) w.2 k) := by
        unfold scF sokB
        by_cases e : t (stF t N w.2 + k) = 122
        · rw [if_pos e, decide_eq_true e]
          rfl
        · have e1 : cmB ClassFile.Cond.ne (t (stF t N w.2 + k) - 97) (-2) = true := decide_eq_true (by omega)
          rw [if_neg e, decide_eq_false e, e1, Bool.true_and, Bool.false_or]
      rw [eb] at hc2
      by_cases hsk : sokB t N (V r) w.2 k = true
      · rw [hsk] at hc2
        refine WW_if hc2 (fun q => by cases q) (fun _ => ?_)
        have ei : zAdd (zMul 8 (V r 6 0)) k = 8 * V r 6 0 + k := by rw [zMul_id (by omega) (by omega), zAdd_id (by omega) (by omega)]
        refine WW_asF (ty := 0) (x := 8 * V r 6 0 + k) (z := scF t N w.2 k) rfl (by decide) (rl_g hr hf rfl) hr.2.1 (by
          have := PE_o2 (f := zAdd) (PE_o2 (f := zMul) (PE_kI (z := 8)) (rl_G (V := V) (Z := sF (V r) 23 (snW t N (V r) w.2 k.toNat)) (k := 6) (L := [some (vR (some 305)), some (vI v1), some (vI k), some (vI (scF t N w.2 k))]) hr hf rfl rfl)) (PE_lI (i := 2) rfl)
          rw [sF_ne (by decide), ei] at this
          exact this) (by omega) (by omega) (PE_lI rfl) rfl (LQ_n (WW_in rfl ⟨rfl, (V r 1 0 - (k + 1)).toNat + 1, by omega, k + 1, X, sF (V r) 23 (snW t N (V r) w.2 (k + 1).toNat), some (vI (scF t N w.2 k)), by omega, by omega, ?_, rfl, ?_, hf, by rw [sF_ne (by decide)], Or.inl ⟨rfl, hX, rfl, fun j j0 j1 => ?_⟩⟩))
        · rw [zAdd_id (by omega) (by omega)]
          rfl
        · have nx : snW t N (V r) w.2 (k + 1).toNat = gUz (snW t N (V r) w.2 k.toNat) (8 * V r 6 0 + k) (scF t N w.2 k) := it_s k0
          rw [MR_z h5, MR_r h5, sF_at, sF_sF, nx]
        · by_cases e : j = k
          · rw [e]; exact hsk
          · exact hok j j0 (by omega)
      · have hsf : sokB t N (V r) w.2 k = false := by simpa using hsk
        rw [hsf] at hc2
        have eEf : qE t N (V r) s = flw t N w 7 := by
          rw [eE, if_pos ⟨hgo.2, anyB_iff.mpr ⟨k, k0, by omega, by rw [hsf]; rfl⟩⟩]
        refine WW_if hc2 (fun _ => ?_) (fun q => by cases q)
        refine rl_184 (by decide) hn (by omega) rfl hf hX fun X7 hf7 h7 => LQ_n (WW_in rfl ⟨rfl, 0, by omega, k + 1, X7, _, some (vI (scF t N w.2 k)), by omega, by omega, ?_, rfl, rfl, hf7, by rw [sF_ne (by decide)], Or.inr ⟨rfl, by rw [eEf]; exact h7, by rw [eEf]; exact flw_1 (by decide)⟩⟩)
        rw [zAdd_id (by omega) (by omega)]
        rfl
    · have et : (cmB ClassFile.Cond.lt k (V r 1 0) && decide (w.1 = 0)) = false := by
        show (decide (k < V r 1 0) && decide (w.1 = 0)) = false
        rw [← Bool.decide_and]
        exact decide_eq_false hgo
      rw [et] at hcond
      refine EE_pe hcond ⟨(fun q => by cases q), fun _ => SQ_n ?_⟩
      have eEw : qE t N (V r) s = w := by
        rw [eE]
        by_cases z : w.1 = 0
        · have hkP : k = V r 1 0 := by
            by_cases y : k < V r 1 0
            · exact absurd ⟨y, z⟩ hgo
            · omega
          rw [if_neg]
          rintro ⟨-, q⟩
          obtain ⟨j, j0, j1, j2⟩ := anyB_iff.mp q
          rw [hok j j0 (by omega)] at j2
          cases j2
        · rw [if_neg (fun y => z y.1)]
      refine fin hf (by rw [eEw]; exact hX) fun q => ?_
      rw [eEw] at q
      have hkP : k = V r 1 0 := by
        by_cases y : k < V r 1 0
        · exact absurd ⟨y, q⟩ hgo
        · omega
      rw [hkP]
  · have hcond := PE_and (PE_cm (op := .lt) (PE_lI (i := 2) rfl) pp) (fun _ => rl_no rfl hX)
    have et : (cmB ClassFile.Cond.lt k (V r 1 0) && decide ((qE t N (V r) s).1 = 0)) = false := by
      rw [decide_eq_false hov, Bool.and_false]
    rw [et] at hcond
    exact EE_pe hcond ⟨(fun q => by cases q), fun _ => SQ_n (fin hf hX fun q => absurd q hov)⟩
end RN2
