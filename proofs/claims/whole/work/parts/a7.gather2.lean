/-! PAIRINGS in the class: gather -/
def okP (D G : oV) (day p : Int) : Bool := hereB G p day && (decide (0 ≤ D 2 (7 * day + p)) && decide (D 2 (7 * day + p) < 8))
def lkM (K D G : oV) (day p : Int) (n : Nat) : Int := it (fun k b => if likB G p (colD K D day k) = true then zOr b (zShl 1 k) else b) n 0
/-- what is gathered of an evening of people up to j -/
def GAT (X K D G : oV) (day : Int) (j : Int) : Prop := X 5 0 = G 1 0 ∧ X 0 0 = cnt j.toNat (okP D G day) ∧ ∀ p, 0 ≤ p → p < j → okP D G day p = true → X 1 (cnt p.toNat (okP D G day)) = p ∧ X 3 (cnt p.toNat (okP D G day)) = zShl 1 (D 2 (7 * day + p)) ∧ X 2 (cnt p.toNat (okP D G day)) = lkM K D G day p (G 1 0).toNat
theorem cnt_lt {P : Int → Bool} {i : Int} (hi : 0 ≤ i) (hP : P i = true) : ∀ {n : Nat}, i < n → cnt i.toNat P < cnt n P
  | 0, h => by omega
  | n + 1, h => by
    show _ < cnt n P + (if P n = true then 1 else 0)
    by_cases e : i = n
    · subst e
      rw [if_pos hP]
      have : ((n : Int)).toNat = n := by omega
      rw [this]
      omega
    · have := cnt_lt hi hP (n := n) (by omega)
      split <;> omega
section GB
variable {c : cT} {V : Mem} {g : Nat} {G : oV} {R : Option gAV → cT → Mem → Prop}
theorem cc_49 {day : Int} (hg : mcl c.1 g = some 4) (hpe : ∀ p : Nat, p < 7 → mcl c.1 (g + 13 + 4 * p) = some 8) (hgr : GR V g G) (hG : GW G) (hr : DR V G) (hd0 : 0 ≤ day) (hd1 : day < G 0 0) (hq : ∀ X, GAT X (V 236) (V 235) G day (G 4 0) → R none c (sO V 294 X)) : CC 4 49 [vR (some 294), vR (some g), vR (some 235), vI day] c V R := by
  have n0 : g ≠ 294 := mcl_ne hg k_294 (by decide)
  obtain ⟨y0, y1, -, -, y4, -⟩ := id hG
  have e1 : V g 1 0 = G 1 0 := hgr.1.2.1
  have e4 : V g 4 0 = G 4 0 := hgr.1.2.2.2.2.1
  have hh : V g 17 day = hereS G day := (hgr.2.2.2.2.2.2.2 day hd0 hd1).1
  refine CC_of mt_49 gb_49 (by decide) (by decide) (rcb_o k_294) (Nat.le_of_ble_eq_true rfl) fun n dd hn hd => ?_
  show WW (bX7_gather (gOr n dd)) n [some (vR (some (294))), some (vR (some (g))), some (vR (some (235))), some (vI (day)), none, none, none] _ _ _
  unfold bX7_gather
  have hn0 : 1000000000 ≤ n := hn
  refine WW_se (WW_se (WW_pf rfl (PE_lR rfl) k_294 (PE_fI rfl (PE_lR rfl) hg) (SQ_n (WW_se (WW_pf rfl (PE_lR rfl) k_294 PE_kI (SQ_n (WW_se (WW_st PE_kI (SQ_n ?_)))))))))
  rw [e1]
  have start : sM (sM V 294 5 (fun _ => G 1 0)) 294 0 (fun _ => 0) = sO V 294 (s1 (s1 (V 294) 5 (G 1 0)) 0 0) := by simp only [sM, sO_sO, sO_at, s1]
  rw [start]
  refine WW_for 900000000 0 (G 4 0) (fun j L1 c1 V1 => ∃ (z5 z6 : Option gAV) (X : oV), L1 = [some (vR (some 294)), some (vR (some g)), some (vR (some 235)), some (vI day), some (vI j), z5, z6] ∧ c1 = c ∧ V1 = sO V 294 X ∧ GAT X (V 236) (V 235) G day j) (by omega) (by omega) (by omega) (by omega) ⟨none, none, _, rfl, rfl, rfl, by simp [s1, sF], by simp [s1, sF, cnt], fun p p0 p1 => by omega⟩ ?_ ?_ ?_
  · rintro j _ _ _ j0 j1 ⟨z5, z6, X, rfl, rfl, rfl, hX⟩
    exact ⟨rfl, PE_g1 rfl hg rfl (by rw [sO_ne n0]; exact e4)⟩
  · rintro j k' _ c _ j0 j1 hk' ⟨z5, z6, X, rfl, rfl, rfl, h5, h0, hP⟩
    have o35 : sO V 294 X 235 = V 235 := sO_ne (by decide)
    have o36 : sO V 294 X 236 = V 236 := sO_ne (by decide)
    have og : sO V 294 X g = V g := sO_ne n0
    have hx : ∀ k, sO V 294 X 294 k = X k := fun k => by rw [sO_at]
    have p20 : PC 1 20 [vR (some 235), vI day, vI j] c (sO V 294 X) (some (vI (V 235 2 (7 * day + j)))) := by
      have := pc_20 (D := 235) (c := c) (V := sO V 294 X) (d := day) (k := j) k_235 hd0 (by omega) j0 (by omega)
      rwa [o35] at this
    refine WW_se (WW_st (PE_cI (PE_aCR (PE_lR rfl) (PE_aCI (PE_lI rfl) (PE_aCI (PE_lI rfl) PE_a0))) hn p20 (by omega)) (SQ_n ?_))
    have hcl := cnt_le (n := j.toNat) (P := okP (V 235) G day)
    have bj := bset_bit (P := fun p => decide (p < G 4 0) && hereB G p day) j0 (by omega)
    simp only [j1, decide_true, Bool.true_and] at bj
    have hph : PE (aI 0 (fR 4 17 (lR 1)) (lI 3)) [some (vR (some 294)), some (vR (some g)), some (vR (some 235)), some (vI day), some (vI j), some (vI (V 235 2 (7 * day + j))), z6] c (sO V 294 X) (hereS G day) := by
      have := PE_aF (ty := 0) (ci := 4) (k := 17) (c := c) (V := sO V 294 X) (L := [some (vR (some 294)), some (vR (some g)), some (vR (some 235)), some (vI day), some (vI j), some (vI (V 235 2 (7 * day + j))), z6]) rfl (by decide) (PE_lR (i := 1) rfl) hg (PE_lI (i := 3) rfl) hd0 (by omega)
      rwa [og, hh] at this
    have hcond := PE_and (PE_and (PE_cz (op := .ne) (PE_o2 (f := zAnd) hph (PE_o2 (f := zShl) (PE_kI (z := 1)) (PE_lI (i := 4) rfl)))) (fun _ => PE_cz (op := .ge) (PE_lI (i := 5) rfl))) (fun _ => PE_cm (op := .lt) (PE_lI (i := 5) rfl) (PE_kI (z := 8)))
    have eok : ((cmB ClassFile.Cond.ne (zAnd (hereS G day) (zShl 1 j)) 0 && cmB ClassFile.Cond.ge (V 235 2 (7 * day + j)) 0) && cmB ClassFile.Cond.lt (V 235 2 (7 * day + j)) 8) = okP (V 235) G day j := by
      unfold okP
      have : cmB ClassFile.Cond.ne (zAnd (hereS G day) (zShl 1 j)) 0 = hereB G j day := by
        apply Bool.eq_iff_iff.mpr
        rw [← bj]
        exact decide_eq_true_iff
      rw [this, Bool.and_assoc]
      rfl
    rw [eok] at hcond
    have cs := cnt_s (P := okP (V 235) G day) j0
    by_cases hok : okP (V 235) G day j = true
    · rw [if_pos hok] at cs
      refine WW_if hcond (fun _ => ?_) (fun hb => by rw [hok] at hb; cases hb)
      have hpn : ∀ {L : gLo} {U : Mem}, L[0]? = some (some (vR (some 294))) → U 294 0 0 = cnt j.toNat (okP (V 235) G day) → PE (fI 7 0 (lR 0)) L c U (cnt j.toNat (okP (V 235) G day)) := fun {L U} hl hu => by
        have := PE_fI (ci := 7) (k := 0) (c := c) (V := U) (L := L) rfl (PE_lR hl) k_294
        rwa [hu] at this
      obtain ⟨m, hm⟩ : ∃ m : Int, m = cnt j.toNat (okP (V 235) G day) := ⟨_, rfl⟩
      rw [← hm] at hpn h0 hcl cs
      refine WW_se (WW_asF (ty := 0) (z := j) rfl (by decide) (PE_lR rfl) k_294 (hpn rfl (by rw [hx]; exact h0)) hcl.1 (by omega) (PE_lI rfl) rfl (SQ_n ?_))
      rw [hx 1]
      refine WW_se (WW_asF (ty := 0) (z := zShl 1 (V 235 2 (7 * day + j))) rfl (by decide) (PE_lR rfl) k_294 (hpn rfl (by rw [sM_k (by decide), hx]; exact h0)) hcl.1 (by omega) (PE_o2 PE_kI (PE_lI rfl)) rfl (SQ_n ?_))
      rw [sM_k (by decide), hx 3]
      refine WW_se (WW_asF (ty := 0) (z := 0) rfl (by decide) (PE_lR rfl) k_294 (hpn rfl (by rw [sM_k (by decide), sM_k (by decide), hx]; exact h0)) hcl.1 (by omega) PE_kI rfl (SQ_n ?_))
      rw [sM_k (by decide), sM_k (by decide), hx 2]
      have eX : sM (sM (sM (sO V 294 X) 294 1 (gUz (X 1) m j)) 294 3 (gUz (X 3) m (zShl 1 (V 235 2 (7 * day + j))))) 294 2 (gUz (X 2) m 0) = sO V 294 (sF (sF (sF X 1 (gUz (X 1) m j)) 3 (gUz (X 3) m (zShl 1 (V 235 2 (7 * day + j))))) 2 (gUz (X 2) m 0)) := by simp only [sM, sO_sO, sO_at]
      rw [eX]
      obtain ⟨Y, hY⟩ : ∃ Y : Int → oV, Y = fun b => sF (sF (sF X 1 (gUz (X 1) m j)) 3 (gUz (X 3) m (zShl 1 (V 235 2 (7 * day + j))))) 2 (gUz (X 2) m b) := ⟨_, rfl⟩
      have hY0 : sF (sF (sF X 1 (gUz (X 1) m j)) 3 (gUz (X 3) m (zShl 1 (V 235 2 (7 * day + j))))) 2 (gUz (X 2) m 0) = Y 0 := by rw [hY]
      rw [hY0]
      have Y0 : ∀ b, Y b 0 = X 0 := fun b => by rw [hY]; simp [sF]
      have Y1 : ∀ b, Y b 1 = gUz (X 1) m j := fun b => by rw [hY]; simp [sF]
      have Y2 : ∀ b, Y b 2 = gUz (X 2) m b := fun b => by rw [hY]; simp [sF]
      have Y3 : ∀ b, Y b 3 = gUz (X 3) m (zShl 1 (V 235 2 (7 * day + j))) := fun b => by rw [hY]; simp [sF]
      have Y5 : ∀ b, Y b 5 = X 5 := fun b => by rw [hY]; simp [sF]
      have Yu : ∀ b b', sM (sO V 294 (Y b)) 294 2 (gUz (Y b 2) m b') = sO V 294 (Y b') := fun b b' => by
        rw [sM, sO_sO, sO_at, Y2]
        congr 1
        rw [hY]
        funext q i
        simp only [sF]
        split
        · unfold gUz; split <;> rfl
        · rfl
      refine WW_se (WW_se (WW_st PE_kI (SQ_n ?_)))
      refine WW_for 800000000 0 (G 1 0) (fun i L1 c1 V1 => L1 = [some (vR (some 294)), some (vR (some g)), some (vR (some 235)), some (vI day), some (vI j), some (vI (V 235 2 (7 * day + j))), some (vI i)] ∧ c1 = c ∧ V1 = sO V 294 (Y (lkM (V 236) (V 235) G day j i.toNat))) (by omega) (by omega) (by omega) (by omega) ⟨rfl, rfl, rfl⟩ ?_ ?_ ?_
      · rintro i _ c _ i0 i1 ⟨rfl, rfl, rfl⟩
        refine ⟨rfl, ?_⟩
        have := PE_fI (ci := 7) (k := 5) (c := c) (V := sO V 294 (Y (lkM (V 236) (V 235) G day j i.toNat))) (L := [some (vR (some 294)), some (vR (some g)), some (vR (some 235)), some (vI day), some (vI j), some (vI (V 235 2 (7 * day + j))), some (vI i)]) rfl (PE_lR (i := 0) rfl) k_294
        rwa [sO_at, Y5, h5] at this
      · rintro i k2 _ c _ i0 i1 hk2 ⟨rfl, rfl, rfl⟩
        obtain ⟨b, hb⟩ : ∃ b : Int, b = lkM (V 236) (V 235) G day j i.toNat := ⟨_, rfl⟩
        have nx : lkM (V 236) (V 235) G day j (i + 1).toNat = if likB G j (colD (V 236) (V 235) day i) = true then zOr b (zShl 1 i) else b := by rw [hb]; exact it_s i0
        rw [nx, ← hb]
        have r1 := hr day i hd0 hd1 i0 i1
        have p19 : PC 2 19 [vR (some 235), vI day, vI i] c (sO V 294 (Y b)) (some (vI (colD (V 236) (V 235) day i))) := by
          have := pc_19 (D := 235) (c := c) (V := sO V 294 (Y b)) (d := day) (k := i) k_235 k_236 hd0 (by omega) i0 (by omega) (by rw [sO_ne (by decide)]; exact r1)
          rw [sO_ne (show (235 : Nat) ≠ 294 by decide), sO_ne (show (235 + 1 : Nat) ≠ 294 by decide)] at this
          exact this
        have p54 : PC 1 54 [vR (some (g + 13 + 4 * j.toNat)), vI (colD (V 236) (V 235) day i)] c (sO V 294 (Y b)) (some (vB (likB G j (colD (V 236) (V 235) day i)))) := pc_54 hG (GR_ext hgr (sO_ne n0) (fun p hp => sO_ne (mcl_ne (hpe p hp) k_294 (by decide))) y4.2) j0 j1 (hpe j.toNat (by omega))
        have hpe2 := PE_cB (L := [some (vR (some 294)), some (vR (some g)), some (vR (some 235)), some (vI day), some (vI j), some (vI (V 235 2 (7 * day + j))), some (vI i)]) (PE_aCR (PE_q12 (PE_lR (i := 1) rfl) hg (PE_lI (i := 4) rfl) j0 (by omega)) (PE_aCI (PE_cI (PE_aCR (PE_lR (i := 2) rfl) (PE_aCI (PE_lI (i := 3) rfl) (PE_aCI (PE_lI (i := 6) rfl) PE_a0))) hn p19 (by omega : 2 ≤ dd)) PE_a0)) hn p54 (by omega : 1 ≤ dd)
        by_cases hl : likB G j (colD (V 236) (V 235) day i) = true
        · rw [if_pos hl]
          refine WW_if hpe2 (fun _ => ?_) (fun hb => by rw [hl] at hb; cases hb)
          have e2 : sO V 294 (Y b) 294 2 m = b := by rw [sO_at, Y2, gUz_at]
          refine WW_au0 rfl (PE_lR rfl) k_294 (hpn rfl (by rw [sO_at, Y0]; exact h0)) hcl.1 (by omega) (PE_o2 PE_kI (PE_lI rfl)) (LQ_n ⟨rfl, rfl, rfl, ?_⟩)
          rw [e2, sO_at, Yu]
        · rw [if_neg hl]
          exact WW_if hpe2 (fun hb => absurd hb hl) (fun _ => WW_sk (LQ_n ⟨rfl, rfl, rfl, rfl⟩))
      · rintro _ c _ ⟨rfl, rfl, rfl⟩
        refine SQ_n (WW_pu rfl (PE_lR rfl) k_294 PE_kI (LQ_n ⟨rfl, _, _, s1 (Y (lkM (V 236) (V 235) G day j (G 1 0).toNat)) 0 (m + 1), rfl, rfl, ?_, ?_, ?_, fun p p0 p1 hp => ?_⟩))
        · rw [sM, sO_sO, sO_at, Y0, h0, zAdd_id (by omega) (by omega)]
          rfl
        · rw [s1_o (by decide), Y5]; exact h5
        · simp only [s1_r, if_true]
          rw [cs]
        · rw [s1_o (by decide), s1_o (by decide), s1_o (by decide), Y1, Y2, Y3]
          by_cases e : p = j
          · subst e
            rw [← hm, gUz_at, gUz_at, gUz_at]
            exact ⟨rfl, rfl, rfl⟩
          · have hlt := cnt_lt p0 hp (n := j.toNat) (by omega)
            rw [← hm] at hlt
            rw [gUz_ne (by omega), gUz_ne (by omega), gUz_ne (by omega)]
            exact hP p p0 (by omega) hp
    · rw [if_neg hok] at cs
      refine WW_if hcond (fun hb => absurd hb hok) (fun _ => WW_sk (LQ_n ⟨rfl, _, z6, X, rfl, rfl, rfl, h5, by rw [cs, h0]; omega, fun p p0 p1 hp => ?_⟩))
      by_cases e : p = j
      · rw [e] at hp; exact absurd hp hok
      · exact hP p p0 (by omega) hp
  · rintro _ c _ ⟨z5, z6, X, rfl, rfl, rfl, hX⟩
    exact SQ_n (WW_rtV ⟨_, rfl, rfl, hq X hX⟩)
end GB
