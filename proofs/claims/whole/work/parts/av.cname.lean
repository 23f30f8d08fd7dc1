/-! THE CLASS'S READER: names -/
def NM (t : Int → Int) (N : Int) (V : Mem) (g : Nat) (G : oV) : Prop := ∀ p : Int, 0 ≤ p → p < G 4 0 → ∃ q', (0 ≤ q' ∧ q' ≤ N) ∧ kdF t N q' = 2 ∧ V (g + 13 + 4 * p.toNat) 0 0 = stF t N q' ∧ V (g + 13 + 4 * p.toNat) 1 0 = (lnF t N q' : Int) ∧ G 8 p = wdF t N q'
section CNM
variable {c : cT} {V : Mem} {g : Nat} {G : oV} {R : Option gAV → cT → Mem → Prop} {t : Int → Int} {N q : Int}
theorem wd_wd {q' : Int} (q0 : 0 ≤ q) (q1 : q ≤ N) (k2 : kdF t N q = 2) (q0' : 0 ≤ q') (q1' : q' ≤ N) (k2' : kdF t N q' = 2) : wdF t N q' = wdF t N q ↔ (lnF t N q = lnF t N q' ∧ ∀ k : Int, 0 ≤ k → k < lnF t N q' → t (stF t N q + k) = t (stF t N q' + k)) := by
  obtain ⟨-, -, -, hl⟩ := kd_2 q0 q1 k2
  obtain ⟨-, -, -, hl'⟩ := kd_2 q0' q1' k2'
  constructor
  · intro h
    unfold wdF at h
    obtain ⟨e1, e2⟩ := wv_inj (fun k k0 k1 => by have := hl' k k0 k1; omega) (fun k k0 k1 => by have := hl k k0 k1; omega) h
    refine ⟨e1.symm, fun k k0 k1 => ?_⟩
    have := e2 k k0 k1
    omega
  · rintro ⟨e1, e2⟩
    unfold wdF wv
    rw [e1]
    exact it_congr fun k k0 k1 x => by dsimp only; rw [e2 k k0 k1]
theorem pc_69 {o : Nat} {q' : Int} (ho : mcl c.1 o = some 8) (ht : TX t N (V 0 0)) (hc : CT t N (V 84) q) (k2 : kdF t N q = 2) (q0' : 0 ≤ q') (q1' : q' ≤ N) (k2' : kdF t N q' = 2) (e0 : V o 0 0 = stF t N q') (e1 : V o 1 0 = (lnF t N q' : Int)) : PC 1 69 [vR (some 84), vR (some o)] c V (some (vB (decide (wdF t N q' = wdF t N q)))) := by
  obtain ⟨⟨q0, q1⟩, x1, x2, x3, x4, -⟩ := hc
  obtain ⟨n0, n1⟩ := ht.1
  have nb := nx_b (t := t) q0 q1
  have nb' := nx_b (t := t) q0' q1'
  obtain ⟨a1, a2, a3, -⟩ := kd_2 q0 q1 k2
  obtain ⟨b1, b2, b3, -⟩ := kd_2 q0' q1' k2'
  have hw := wd_wd (t := t) (N := N) q0 q1 k2 q0' q1' k2'
  refine PC_of ?_
  refine CC_of mt_69 gb_69 (by decide) (by decide) (rcb_o k_84) (Nat.le_of_ble_eq_true rfl) fun n dd hn hd => ?_
  show WW (bX9_isNamed (gOr n dd)) n [some (vR (some (84))), some (vR (some (o))), none] _ _ _
  unfold bX9_isNamed
  have hn0 : 1000000000 ≤ n := hn
  have p3 := PE_fI (ci := 9) (k := 3) (c := c) (V := V) (L := [some (vR (some 84)), some (vR (some o)), none]) rfl (PE_lR (i := 0) rfl) k_84
  have p4 := PE_fI (ci := 9) (k := 4) (c := c) (V := V) (L := [some (vR (some 84)), some (vR (some o)), none]) rfl (PE_lR (i := 0) rfl) k_84
  have pl := PE_fI (ci := 8) (k := 1) (c := c) (V := V) (L := [some (vR (some 84)), some (vR (some o)), none]) rfl (PE_lR (i := 1) rfl) ho
  rw [x3] at p3
  rw [x4] at p4
  rw [e1] at pl
  have hcond := PE_cm (op := .ne) (PE_o2 (f := zSub) p4 p3) pl
  rw [zSub_id (by omega) (by omega)] at hcond
  by_cases hl : lnF t N q = lnF t N q'
  · have ec : cmB ClassFile.Cond.ne (nxF t N q - stF t N q) (lnF t N q') = false := decide_eq_false (fun z => z (by omega))
    rw [ec] at hcond
    refine WW_se (WW_if hcond (fun q => by cases q) (fun _ => WW_sk (SQ_n (WW_se (WW_se (WW_st PE_kI (SQ_n ?_)))))))
    clear hcond p3 p4 pl
    refine WW_for 900000000 0 (lnF t N q') (fun j L1 c1 V1 => L1 = [some (vR (some 84)), some (vR (some o)), some (vI j)] ∧ c1 = c ∧ V1 = V ∧ ∀ k : Int, 0 ≤ k → k < j → t (stF t N q + k) = t (stF t N q' + k)) (by omega) (by omega) (by omega) (by omega) ⟨rfl, rfl, rfl, fun k k0 k1 => by omega⟩ ?_ ?_ ?_
    · rintro j _ c V j0 j1 ⟨rfl, rfl, rfl, hj⟩
      have pl := PE_fI (ci := 8) (k := 1) (c := c) (V := V) (L := [some (vR (some 84)), some (vR (some o)), some (vI j)]) rfl (PE_lR (i := 1) rfl) ho
      rw [e1] at pl
      exact ⟨rfl, pl⟩
    · rintro j k' _ c V j0 j1 hk' ⟨rfl, rfl, rfl, hj⟩
      have p3 := PE_fI (ci := 9) (k := 3) (c := c) (V := V) (L := [some (vR (some 84)), some (vR (some o)), some (vI j)]) rfl (PE_lR (i := 0) rfl) k_84
      have p0 := PE_fI (ci := 8) (k := 0) (c := c) (V := V) (L := [some (vR (some 84)), some (vR (some o)), some (vI j)]) rfl (PE_lR (i := 1) rfl) ho
      rw [x3] at p3
      rw [e0] at p0
      have pi := PE_o2 (f := zAdd) p3 (PE_lI (i := 2) rfl)
      have pi' := PE_o2 (f := zAdd) p0 (PE_lI (i := 2) rfl)
      rw [zAdd_id (by omega) (by omega)] at pi pi'
      have pt := PE_aT (PE_lR (i := 0) rfl) k_84 pi (by omega) (by omega)
      have pt' := PE_aT (PE_lR (i := 0) rfl) k_84 pi' (by omega) (by omega)
      rw [(ht.2 (stF t N q + j) (by omega) (by omega)).1] at pt
      rw [(ht.2 (stF t N q' + j) (by omega) (by omega)).1] at pt'
      refine WW_if (PE_cm (op := .ne) pt pt') (fun hb => ?_) (fun hb => WW_sk (LQ_n ⟨rfl, rfl, rfl, rfl, fun k k0 k1 => ?_⟩))
      · have hb : ¬ t (stF t N q + j) = t (stF t N q' + j) := of_decide_eq_true hb
        have : decide (wdF t N q' = wdF t N q) = false := decide_eq_false fun z => hb ((hw.mp z).2 j j0 j1)
        rw [this]
        exact WW_rtB PE_kB (LQ_r ⟨_, rfl, rfl, rfl, rfl, rfl⟩)
      · have hb : t (stF t N q + j) = t (stF t N q' + j) := Classical.not_not.mp (of_decide_eq_false hb)
        by_cases e : k = j
        · rw [e]; exact hb
        · exact hj k k0 (by omega)
    · rintro _ c V ⟨rfl, rfl, rfl, hj⟩
      have : decide (wdF t N q' = wdF t N q) = true := decide_eq_true (hw.mpr ⟨hl, hj⟩)
      rw [this]
      exact SQ_n (WW_rtB PE_kB ⟨_, rfl, rfl, rfl, rfl, rfl⟩)
  · have ec : cmB ClassFile.Cond.ne (nxF t N q - stF t N q) (lnF t N q') = true := decide_eq_true (by omega)
    rw [ec] at hcond
    have : decide (wdF t N q' = wdF t N q) = false := decide_eq_false fun z => hl (hw.mp z).1
    rw [this]
    exact WW_se (WW_if hcond (fun _ => WW_rtB PE_kB (SQ_s ⟨_, rfl, rfl, rfl, rfl, rfl⟩)) (fun q => by cases q))
theorem pc_68 (hg : mcl c.1 g = some 4) (hpe : ∀ p : Nat, p < 7 → mcl c.1 (g + 13 + 4 * p) = some 8) (h8 : V 84 8 0 = (g : Int)) (h4 : V g 4 0 = G 4 0) (g4 : 0 ≤ G 4 0 ∧ G 4 0 ≤ 7) (hN : NM t N V g G) (ht : TX t N (V 0 0)) (hc : CT t N (V 84) q) (k2 : kdF t N q = 2) : PC 2 68 [vR (some 84)] c V (some (vI (fdF G (wdF t N q)))) := by
  refine PC_of ?_
  refine CC_of mt_68 gb_68 (by decide) (by decide) (rcb_o k_84) (Nat.le_of_ble_eq_true rfl) fun n dd hn hd => ?_
  show WW (bX9_toldPerson (gOr n dd)) n [some (vR (some (84))), none] _ _ _
  unfold bX9_toldPerson
  have hn0 : 1000000000 ≤ n := hn
  refine WW_se (WW_se (WW_st PE_kI (SQ_n ?_)))
  refine WW_for 900000000 0 (G 4 0) (fun j L1 c1 V1 => L1 = [some (vR (some 84)), some (vI j)] ∧ c1 = c ∧ V1 = V ∧ ∀ i : Int, 0 ≤ i → i < j → ¬ G 8 i = wdF t N q) (by omega) (by omega) (by omega) (by omega) ⟨rfl, rfl, rfl, fun i i0 i1 => by omega⟩ ?_ ?_ ?_
  · rintro j _ c V j0 j1 ⟨rfl, rfl, rfl, hj⟩
    have := PE_fI (ci := 4) (k := 4) (c := c) (V := V) (L := [some (vR (some 84)), some (vI j)]) rfl (PE_fP (ci := 9) (k := 8) rfl (PE_lR (i := 0) rfl) k_84 h8) hg
    rw [h4] at this
    exact ⟨rfl, this⟩
  · rintro j k' _ c V j0 j1 hk' ⟨rfl, rfl, rfl, hj⟩
    obtain ⟨q', ⟨a1, a2⟩, a3, a4, a5, a6⟩ := hN j j0 j1
    have pn := PE_cB (c := c) (V := V) (L := [some (vR (some 84)), some (vI j)]) (PE_aCR (PE_lR (i := 0) rfl) (PE_aCR (PE_q12 (PE_fP (ci := 9) (k := 8) rfl (PE_lR (i := 0) rfl) k_84 h8) hg (PE_lI (i := 1) rfl) j0 (by omega)) PE_a0)) hn (pc_69 (hpe j.toNat (by omega)) ht hc k2 a1 a2 a3 a4 a5) (by omega : 1 ≤ dd)
    rw [← a6] at pn
    refine WW_if pn (fun hb => ?_) (fun hb => WW_sk (LQ_n ⟨rfl, rfl, rfl, rfl, fun i i0 i1 => ?_⟩))
    · have hb : G 8 j = wdF t N q := of_decide_eq_true hb
      have ef : fdF G (wdF t N q) = j := fst1_at j0 (by omega) (by simp [hb]) fun i i0 i1 => decide_eq_false (hj i i0 i1)
      rw [ef]
      exact WW_rt (PE_lI rfl) (LQ_r ⟨_, rfl, rfl, rfl, rfl, rfl⟩)
    · have hb : ¬ G 8 j = wdF t N q := of_decide_eq_false hb
      by_cases e : i = j
      · rw [e]; exact hb
      · exact hj i i0 (by omega)
  · rintro _ c V ⟨rfl, rfl, rfl, hj⟩
    have ef : fdF G (wdF t N q) = -1 := fst1_no fun i i0 i1 => decide_eq_false (hj i i0 (by omega))
    rw [ef]
    exact SQ_n (WW_rt PE_kI ⟨_, rfl, rfl, rfl, rfl, rfl⟩)
/-- a name that isn't a line's word -/
theorem sl_nm : nameB t N (0, q) = (decide (kdF t N q = 2) && decide (slF t N q = -1)) := by
  unfold nameB slF
  cases isW t N (0, q) (wK 26) <;> cases isW t N (0, q) (wK 31) <;> cases isW t N (0, q) (wK 32) <;> cases isW t N (0, q) (wK 33) <;> cases isW t N (0, q) (wK 34) <;> cases isW t N (0, q) (wK 35) <;> cases decide (kdF t N q = 2) <;> rfl
theorem sl_b : -1 ≤ slF t N q ∧ slF t N q ≤ 5 := by
  unfold slF
  cases isW t N (0, q) (wK 26) <;> cases isW t N (0, q) (wK 31) <;> cases isW t N (0, q) (wK 32) <;> cases isW t N (0, q) (wK 33) <;> cases isW t N (0, q) (wK 34) <;> cases isW t N (0, q) (wK 35) <;> decide
theorem kdC_1 : kdC (kdF t N q) = 1 ↔ kdF t N q = 2 := by
  rcases kdF_r (t := t) (N := N) (q := q) with e | e | e | e | e | e <;> rw [e] <;> decide
/-- whether the token is no name: sort != WORD || sortOfLine() >= 0 -/
theorem cl_nm {L : gLo} {n dd : Nat} (hn : nB ≤ n) (hd : 7 ≤ dd) (hl : L[0]? = some (some (vR (some 84)))) (ht : TX t N (V 0 0)) (hc : CT t N (V 84) q) : PE (orC (cmC .ne (fI 9 2 (lR 0)) (kI 1)) (czC .ge (cI (gOr n dd) 62 (aCR (lR 0) (a0))))) L c V (!(nameB t N (0, q))) := by
  have p2 := PE_fI (ci := 9) (k := 2) (c := c) (V := V) (L := L) rfl (PE_lR hl) k_84
  rw [hc.2.2.1] at p2
  have := PE_or (PE_cm (op := .ne) p2 (PE_kI (z := 1))) (fun _ => PE_cz (op := .ge) (PE_cI (PE_aCR (PE_lR hl) PE_a0) hn (pc_62 (c := c) ht hc) hd))
  have e : (cmB ClassFile.Cond.ne (kdC (kdF t N q)) 1 || cmB ClassFile.Cond.ge (slF t N q) 0) = !(nameB t N (0, q)) := by
    rw [sl_nm]
    have b := sl_b (t := t) (N := N) (q := q)
    apply Bool.eq_iff_iff.mpr
    simp only [cmB, Bool.or_eq_true, Bool.not_eq_true', Bool.and_eq_false_iff, decide_eq_true_eq, decide_eq_false_iff_not]
    rw [kdC_1]
    constructor
    · rintro (z | z)
      · exact Or.inl z
      · exact Or.inr (by omega)
    · rintro (z | z)
      · exact Or.inl z
      · exact Or.inr (by omega)
  rwa [e] at this
def F7 (S T : oV) : Prop := ∀ k : Nat, k < 2 ∨ k = 8 ∨ 10 < k → T k = S k
theorem FK.f7 {S T : oV} (a : FK S T) : F7 S T := fun k h => a k (by omega)
theorem F7.tr {S T U : oV} (a : F7 S T) (b : F7 T U) : F7 S U := fun k h => (b k h).trans (a k h)
theorem cc_70 (hg : mcl c.1 g = some 4) (hpe : ∀ p : Nat, p < 7 → mcl c.1 (g + 13 + 4 * p) = some 8) (h8 : V 84 8 0 = (g : Int)) (h4 : V g 4 0 = G 4 0) (g4 : 0 ≤ G 4 0 ∧ G 4 0 ≤ 7) (hN : NM t N V g G) (ht : TX t N (V 0 0)) (hc : CT t N (V 84) q) (hq : ∀ X, F7 (V 84) X → CS t N X (knS t N G (0, q)) → ((knS t N G (0, q)).1 = 0 → X 7 0 = fdF G (wdF t N q)) → R (some (vB (decide ((knS t N G (0, q)).1 = 0)))) c (sO V 84 X)) : CC 8 70 [vR (some 84)] c V R := by
  refine CC_of mt_70 gb_70 (by decide) (by decide) (rcb_o k_84) (Nat.le_of_ble_eq_true rfl) fun n dd hn hd => ?_
  show WW (bX9_toldName (gOr n dd)) n [some (vR (some (84)))] _ _ _
  unfold bX9_toldName
  have hn0 : 1000000000 ≤ n := hn
  unfold knS at hq
  have pn := cl_nm (c := c) (V := V) (L := [some (vR (some 84))]) hn (by omega : 7 ≤ dd) rfl ht hc
  by_cases hnm : nameB t N (0, q) = true
  · have k2 := (nameB_k hnm).2
    simp only [hnm, if_true, true_and] at hq
    rw [hnm] at pn
    refine WW_se (WW_if pn (fun z => by cases z) (fun _ => WW_sk (SQ_n ?_)))
    refine WW_se (WW_pf rfl (PE_lR rfl) k_84 (PE_cI (PE_aCR (PE_lR rfl) PE_a0) hn (pc_68 hg hpe h8 h4 g4 hN ht hc k2) (by omega)) (SQ_n ?_))
    have eV : sM V 84 7 (fun _ => fdF G (wdF t N q)) = sO V 84 (sF (V 84) 7 (fun _ => fdF G (wdF t N q))) := rfl
    rw [eV]
    have fb := fd_b (G := G) (w := wdF t N q) g4.1
    have p7 := cl_f (c := c) (V := V) (X := sF (V 84) 7 (fun _ => fdF G (wdF t N q))) (L := [some (vR (some 84))]) (k := 7) rfl rfl
    rw [sF_at] at p7
    have hc' : CT t N (sF (V 84) 7 (fun _ => fdF G (wdF t N q))) q := by
      unfold CT
      rw [sF_ne (by decide), sF_ne (by decide), sF_ne (by decide), sF_ne (by decide), sF_ne (by decide), sF_ne (by decide)]
      exact hc
    have f7 : F7 (V 84) (sF (V 84) 7 (fun _ => fdF G (wdF t N q))) := fun k h => by rw [sF_ne (by omega)]
    by_cases hf : fdF G (wdF t N q) = -1
    · rw [if_pos hf] at hq
      refine WW_rtBE (EE_or (EE_pe (PE_cz p7) ⟨fun hb => absurd (of_decide_eq_true hb) (by omega), fun _ => EE_cB (PE_aCR (PE_lR rfl) (PE_aCI PE_kI PE_a0)) hn (cc_57 ⟨_, rfl, ⟨_, rfl, rfl, ?_⟩⟩) (by omega)⟩))
      rw [sO_sO, sO_at]
      have := hq _ (f7.tr FK_f.f7) (CS_f (f := 2) (by decide) hc') (fun z => absurd z (flw_1 (by decide)))
      rwa [decide_eq_false (flw_1 (by decide))] at this
    · rw [if_neg hf] at hq
      refine WW_rtBE (EE_or (EE_pe (PE_cz p7) ⟨fun _ => ⟨_, rfl, rfl, ?_⟩, fun hb => absurd (show fdF G (wdF t N q) ≥ 0 by omega) (of_decide_eq_false hb)⟩))
      exact hq _ f7 ⟨fun _ => hc', fun z => absurd rfl z⟩ (fun _ => by rw [sF_at])
  · have hnf : nameB t N (0, q) = false := by simpa using hnm
    rw [hnf] at pn
    have e1 : ¬ ((flw t N (0, q) 1).1 = 0 ∧ fdF G (wdF t N (flw t N (0, q) 1).2) = -1) := fun z => absurd z.1 (flw_1 (by decide))
    simp only [hnf, Bool.false_eq_true, if_false] at hq
    rw [if_neg e1] at hq
    refine WW_se (WW_if pn (fun _ => WW_rtBE (EE_cB (PE_aCR (PE_lR rfl) (PE_aCI PE_kI PE_a0)) hn (cc_57 ⟨_, rfl, SQ_s ⟨_, rfl, rfl, ?_⟩⟩) (by omega))) (fun z => by cases z))
    have := hq _ FK_f.f7 (CS_f (f := 1) (by decide) hc) (fun z => absurd z (flw_1 (by decide)))
    rwa [decide_eq_false (flw_1 (by decide))] at this
end CNM
