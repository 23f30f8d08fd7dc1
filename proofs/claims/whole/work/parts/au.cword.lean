/-! THE CLASS'S READER: words and wholes -/
theorem wK_e : (wK 0 = wK 26 ∧ wK 1 = wK 31 ∧ wK 2 = wK 32 ∧ wK 3 = wK 33 ∧ wK 4 = wK 34 ∧ wK 5 = wK 35) ∧ (wK 6 = wK 27 ∧ wK 7 = wK 28 ∧ wK 8 = wK 29 ∧ wK 9 = wK 30) ∧ (wK 10 = wK 36 ∧ wK 11 = wK 37 ∧ wK 12 = wK 38 ∧ wK 13 = wK 39 ∧ wK 14 = wK 40) ∧ (wK 15 = wK 41 ∧ wK 16 = wK 42 ∧ wK 17 = wK 43 ∧ wK 19 = wK 44) ∧ (wK 20 = wK 45 ∧ wK 21 = wK 46 ∧ wK 22 = wK 47 ∧ wK 23 = wK 48 ∧ wK 24 = wK 49 ∧ wK 25 = wK 50) := by decide +kernel
/-- a state of the class's reader: on, or a fault noted -/
def CS (t : Int → Int) (N : Int) (X : oV) (s : Int × Int) : Prop := (s.1 = 0 → CT t N X s.2) ∧ (s.1 ≠ 0 → X 9 0 = s.1 ∧ X 10 0 = s.2)
def FK (S T : oV) : Prop := ∀ k : Nat, k < 2 ∨ k = 7 ∨ k = 8 ∨ 10 < k → T k = S k
theorem FK.rf {S : oV} : FK S S := fun _ _ => rfl
theorem FK.tr {S T U : oV} (a : FK S T) (b : FK T U) : FK S U := fun k h => (b k h).trans (a k h)
theorem FrC.fk {S T : oV} (a : FrC S T) : FK S T := fun k h => a k (by omega)
def slF (t : Int → Int) (N q : Int) : Int := if isW t N (0, q) (wK 26) = true then 0 else if isW t N (0, q) (wK 31) = true then 1 else if isW t N (0, q) (wK 32) = true then 2 else if isW t N (0, q) (wK 33) = true then 3 else if isW t N (0, q) (wK 34) = true then 4 else if isW t N (0, q) (wK 35) = true then 5 else -1
section CWD
variable {c : cT} {V : Mem} {R : Option gAV → cT → Mem → Prop} {t : Int → Int} {N q : Int}
theorem wd_eq {i : Nat} (hi : i < 51) (q0 : 0 ≤ q) (q1 : q ≤ N) (k2 : kdF t N q = 2) : wdF t N q = wK i ↔ (lnF t N q = gLn i ∧ ∀ k : Int, 0 ≤ k → k < lnF t N q → t (stF t N q + k) = tCh i k.toNat) := by
  obtain ⟨g1, g2⟩ := tCh_dec i (List.mem_range.mpr hi)
  obtain ⟨-, -, -, hl⟩ := kd_2 q0 q1 k2
  constructor
  · intro h
    unfold wdF wK at h
    obtain ⟨e1, e2⟩ := wv_inj (fun k k0 k1 => by have := hl k k0 k1; omega) (fun k k0 k1 => by have := g2 k.toNat (List.mem_range.mpr (by omega)); omega) h
    refine ⟨e1, fun k k0 k1 => ?_⟩
    have := e2 k k0 k1
    omega
  · rintro ⟨e1, e2⟩
    unfold wdF wK wv
    rw [← e1]
    exact it_congr fun k k0 k1 x => by dsimp only; rw [e2 k k0 k1]
theorem pc_61 {i : Nat} (hi : i < 51) (ht : TX t N (V 0 0)) (hc : CT t N (V 84) q) : PC 6 61 [vR (some 84), vS i] c V (some (vB (isW t N (0, q) (wK i)))) := by
  obtain ⟨⟨q0, q1⟩, x1, x2, x3, x4, -⟩ := hc
  obtain ⟨n0, n1⟩ := ht.1
  obtain ⟨g1, g2⟩ := tCh_dec i (List.mem_range.mpr hi)
  have nb := nx_b (t := t) q0 q1
  refine PC_of ?_
  refine CC_of mt_61 gb_61 (by decide) (by decide) (rcb_o k_84) (Nat.le_of_ble_eq_true rfl) fun n dd hn hd => ?_
  show WW (bX9_tokenIs (gOr n dd)) n [some (vR (some (84))), some (vS (i)), none] _ _ _
  unfold bX9_tokenIs
  have hn0 : 1000000000 ≤ n := hn
  have p2 := PE_fI (ci := 9) (k := 2) (c := c) (V := V) (L := [some (vR (some 84)), some (vS i), none]) rfl (PE_lR (i := 0) rfl) k_84
  have p3 := PE_fI (ci := 9) (k := 3) (c := c) (V := V) (L := [some (vR (some 84)), some (vS i), none]) rfl (PE_lR (i := 0) rfl) k_84
  have p4 := PE_fI (ci := 9) (k := 4) (c := c) (V := V) (L := [some (vR (some 84)), some (vS i), none]) rfl (PE_lR (i := 0) rfl) k_84
  have pln := PE_cI (c := c) (V := V) (L := [some (vR (some 84)), some (vS i), none]) (PE_aCS (PE_lS (i := 1) rfl) PE_a0) hn (pc_305 hi) (by omega : 5 ≤ dd)
  rw [x2] at p2
  rw [x3] at p3
  rw [x4] at p4
  have hcond := PE_or (PE_cm (op := .ne) p2 (PE_kI (z := 1))) (fun _ => PE_cm (op := .ne) (PE_o2 (f := zSub) p4 p3) pln)
  rw [zSub_id (by omega) (by omega)] at hcond
  by_cases k2 : kdF t N q = 2
  · obtain ⟨a1, a2, a3, -⟩ := kd_2 q0 q1 k2
    have hw := wd_eq (t := t) (N := N) hi q0 q1 k2
    have eW : isW t N (0, q) (wK i) = decide (wdF t N q = wK i) := by
      unfold isW
      rw [decide_eq_true k2]
      rfl
    rw [eW]
    have e2 : kdC (kdF t N q) = 1 := by rw [k2]; rfl
    rw [e2] at hcond
    by_cases hl : lnF t N q = gLn i
    · have e1 : (cmB ClassFile.Cond.ne 1 1 || cmB ClassFile.Cond.ne (nxF t N q - stF t N q) (gLn i)) = false := by
        have : cmB ClassFile.Cond.ne (nxF t N q - stF t N q) (gLn i) = false := decide_eq_false (fun z => z (by omega))
        rw [this]
        rfl
      rw [e1] at hcond
      refine WW_se (WW_if hcond (fun q => by cases q) (fun _ => WW_sk (SQ_n (WW_se (WW_se (WW_st PE_kI (SQ_n ?_)))))))
      clear hcond p2 p3 p4 pln
      refine WW_for 900000000 0 (gLn i) (fun j L1 c1 V1 => L1 = [some (vR (some 84)), some (vS i), some (vI j)] ∧ c1 = c ∧ V1 = V ∧ ∀ k : Int, 0 ≤ k → k < j → t (stF t N q + k) = tCh i k.toNat) (by omega) (by omega) (by omega) (by omega) ⟨rfl, rfl, rfl, fun k k0 k1 => by omega⟩ ?_ ?_ ?_
      · rintro j _ c V j0 j1 ⟨rfl, rfl, rfl, hj⟩
        exact ⟨rfl, PE_cI (PE_aCS (PE_lS (i := 1) rfl) PE_a0) hn (pc_305 hi) (by omega)⟩
      · rintro j k' _ c V j0 j1 hk' ⟨rfl, rfl, rfl, hj⟩
        have p3 := PE_fI (ci := 9) (k := 3) (c := c) (V := V) (L := [some (vR (some 84)), some (vS i), some (vI j)]) rfl (PE_lR (i := 0) rfl) k_84
        rw [x3] at p3
        have pi := PE_o2 (f := zAdd) p3 (PE_lI (i := 2) rfl)
        rw [zAdd_id (by omega) (by omega)] at pi
        have pt := PE_aT (PE_lR (i := 0) rfl) k_84 pi (by omega) (by omega)
        rw [(ht.2 (stF t N q + j) (by omega) (by omega)).1] at pt
        have pch := PE_cI (c := c) (V := V) (L := [some (vR (some 84)), some (vS i), some (vI j)]) (PE_aCS (PE_lS (i := 1) rfl) (PE_aCI (PE_lI (i := 2) rfl) PE_a0)) hn (pc_306 hi j0 j1) (by omega : 5 ≤ dd)
        refine WW_if (PE_cm (op := .ne) pt pch) (fun hb => ?_) (fun hb => WW_sk (LQ_n ⟨rfl, rfl, rfl, rfl, fun k k0 k1 => ?_⟩))
        · have hb : ¬ t (stF t N q + j) = tCh i j.toNat := of_decide_eq_true hb
          have : decide (wdF t N q = wK i) = false := decide_eq_false fun z => hb ((hw.mp z).2 j j0 (by omega))
          rw [this]
          exact WW_rtB PE_kB (LQ_r ⟨_, rfl, rfl, rfl, rfl, rfl⟩)
        · have hb : t (stF t N q + j) = tCh i j.toNat := Classical.not_not.mp (of_decide_eq_false hb)
          by_cases e : k = j
          · rw [e]; exact hb
          · exact hj k k0 (by omega)
      · rintro _ c V ⟨rfl, rfl, rfl, hj⟩
        have : decide (wdF t N q = wK i) = true := decide_eq_true (hw.mpr ⟨hl, fun k k0 k1 => hj k k0 (by omega)⟩)
        rw [this]
        exact SQ_n (WW_rtB PE_kB ⟨_, rfl, rfl, rfl, rfl, rfl⟩)
    · have e1 : (cmB ClassFile.Cond.ne 1 1 || cmB ClassFile.Cond.ne (nxF t N q - stF t N q) (gLn i)) = true := by
        have : cmB ClassFile.Cond.ne (nxF t N q - stF t N q) (gLn i) = true := decide_eq_true (by omega)
        rw [this]
        rfl
      rw [e1] at hcond
      have : decide (wdF t N q = wK i) = false := decide_eq_false fun z => hl (hw.mp z).1
      rw [this]
      exact WW_se (WW_if hcond (fun _ => WW_rtB PE_kB (SQ_s ⟨_, rfl, rfl, rfl, rfl, rfl⟩)) (fun q => by cases q))
  · have e2 : kdC (kdF t N q) ≠ 1 := by
      rcases kdF_r (t := t) (N := N) (q := q) with e | e | e | e | e | e <;> rw [e] at k2 ⊢ <;> first | exact absurd rfl k2 | decide
    have e1 : (cmB ClassFile.Cond.ne (kdC (kdF t N q)) 1 || cmB ClassFile.Cond.ne (nxF t N q - stF t N q) (gLn i)) = true := by
      have : cmB ClassFile.Cond.ne (kdC (kdF t N q)) 1 = true := decide_eq_true e2
      rw [this]
      rfl
    rw [e1] at hcond
    have eW : isW t N (0, q) (wK i) = false := by
      unfold isW
      rw [decide_eq_false k2]
      rfl
    rw [eW]
    exact WW_se (WW_if hcond (fun _ => WW_rtB PE_kB (SQ_s ⟨_, rfl, rfl, rfl, rfl, rfl⟩)) (fun q => by cases q))
theorem pc_62 (ht : TX t N (V 0 0)) (hc : CT t N (V 84) q) : PC 7 62 [vR (some 84)] c V (some (vI (slF t N q))) := by
  refine PC_of ?_
  refine CC_of mt_62 gb_62 (by decide) (by decide) (rcb_o k_84) (Nat.le_of_ble_eq_true rfl) fun n dd hn hd => ?_
  show WW (bX9_sortOfLine (gOr n dd)) n [some (vR (some (84)))] _ _ _
  unfold bX9_sortOfLine
  have hn0 : 1000000000 ≤ n := hn
  obtain ⟨⟨w0, w1, w2, w3, w4, w5⟩, -⟩ := wK_e
  have pw : ∀ i, i < 51 → PE (cB (gOr n dd) 61 (aCR (lR 0) (aCS (kS i) (a0)))) [some (vR (some 84))] c V (isW t N (0, q) (wK i)) := fun i hi => PE_cB (PE_aCR (PE_lR rfl) (PE_aCS PE_kS PE_a0)) hn (pc_61 hi ht hc) (by omega)
  have q0 := pw 0 (by decide)
  have q1 := pw 1 (by decide)
  have q2 := pw 2 (by decide)
  have q3 := pw 3 (by decide)
  have q4 := pw 4 (by decide)
  have q5 := pw 5 (by decide)
  rw [w0] at q0
  rw [w1] at q1
  rw [w2] at q2
  rw [w3] at q3
  rw [w4] at q4
  rw [w5] at q5
  unfold slF
  refine WW_se (WW_if q0 (fun h0 => WW_rt PE_kI (SQ_s ⟨_, rfl, rfl, ?_, rfl, rfl⟩)) (fun h0 => WW_sk (SQ_n (WW_se (WW_if q1 (fun h1 => WW_rt PE_kI (SQ_s ⟨_, rfl, rfl, ?_, rfl, rfl⟩)) (fun h1 => WW_sk (SQ_n (WW_se (WW_if q2 (fun h2 => WW_rt PE_kI (SQ_s ⟨_, rfl, rfl, ?_, rfl, rfl⟩)) (fun h2 => WW_sk (SQ_n (WW_se (WW_if q3 (fun h3 => WW_rt PE_kI (SQ_s ⟨_, rfl, rfl, ?_, rfl, rfl⟩)) (fun h3 => WW_sk (SQ_n (WW_se (WW_if q4 (fun h4 => WW_rt PE_kI (SQ_s ⟨_, rfl, rfl, ?_, rfl, rfl⟩)) (fun h4 => WW_sk (SQ_n (WW_rt (PE_ite q5 (fun _ => PE_kI) (fun _ => PE_kI)) ⟨_, rfl, rfl, ?_, rfl, rfl⟩))))))))))))))))))))
  · rw [h0]; rfl
  · rw [h0, h1]; rfl
  · rw [h0, h1, h2]; rfl
  · rw [h0, h1, h2, h3]; rfl
  · rw [h0, h1, h2, h3, h4]; rfl
  · rw [h0, h1, h2, h3, h4]; rfl
theorem pc_63 {i j k l : Nat} (hi : i < 51) (hj : j < 51) (hk : k < 51) (hl : l < 51) (ht : TX t N (V 0 0)) (hc : CT t N (V 84) q) : PC 7 63 [vR (some 84), vS i, vS j, vS k, vS l] c V (some (vI (if isW t N (0, q) (wK i) = true then 0 else if isW t N (0, q) (wK j) = true then 1 else if isW t N (0, q) (wK k) = true then 2 else if isW t N (0, q) (wK l) = true then 3 else -1))) := by
  refine PC_of ?_
  refine CC_of mt_63 gb_63 (by decide) (by decide) (rcb_o k_84) (Nat.le_of_ble_eq_true rfl) fun n dd hn hd => ?_
  show WW (bX9_choice (gOr n dd)) n [some (vR (some (84))), some (vS (i)), some (vS (j)), some (vS (k)), some (vS (l))] _ _ _
  unfold bX9_choice
  have hn0 : 1000000000 ≤ n := hn
  have q0 := PE_cB (L := [some (vR (some 84)), some (vS i), some (vS j), some (vS k), some (vS l)]) (c := c) (V := V) (PE_aCR (PE_lR (i := 0) rfl) (PE_aCS (PE_lS (i := 1) rfl) PE_a0)) hn (pc_61 hi ht hc) (by omega : 6 ≤ dd)
  have q1 := PE_cB (L := [some (vR (some 84)), some (vS i), some (vS j), some (vS k), some (vS l)]) (c := c) (V := V) (PE_aCR (PE_lR (i := 0) rfl) (PE_aCS (PE_lS (i := 2) rfl) PE_a0)) hn (pc_61 hj ht hc) (by omega : 6 ≤ dd)
  have q2 := PE_cB (L := [some (vR (some 84)), some (vS i), some (vS j), some (vS k), some (vS l)]) (c := c) (V := V) (PE_aCR (PE_lR (i := 0) rfl) (PE_aCS (PE_lS (i := 3) rfl) PE_a0)) hn (pc_61 hk ht hc) (by omega : 6 ≤ dd)
  have q3 := PE_cB (L := [some (vR (some 84)), some (vS i), some (vS j), some (vS k), some (vS l)]) (c := c) (V := V) (PE_aCR (PE_lR (i := 0) rfl) (PE_aCS (PE_lS (i := 4) rfl) PE_a0)) hn (pc_61 hl ht hc) (by omega : 6 ≤ dd)
  refine WW_se (WW_if q0 (fun h0 => WW_rt PE_kI (SQ_s ⟨_, rfl, rfl, ?_, rfl, rfl⟩)) (fun h0 => WW_sk (SQ_n (WW_se (WW_if q1 (fun h1 => WW_rt PE_kI (SQ_s ⟨_, rfl, rfl, ?_, rfl, rfl⟩)) (fun h1 => WW_sk (SQ_n (WW_se (WW_if q2 (fun h2 => WW_rt PE_kI (SQ_s ⟨_, rfl, rfl, ?_, rfl, rfl⟩)) (fun h2 => WW_sk (SQ_n (WW_rt (PE_ite q3 (fun _ => PE_kI) (fun _ => PE_kI)) ⟨_, rfl, rfl, ?_, rfl, rfl⟩))))))))))))
  · rw [h0]; rfl
  · rw [h0, h1]; rfl
  · rw [h0, h1, h2]; rfl
  · rw [h0, h1, h2]; rfl
/-- a fault -/
theorem CS_f {f : Int} {X : oV} (hf : f ≠ 0) (hc : CT t N X q) : CS t N (sF (sF X 9 (fun _ => f)) 10 (fun _ => X 3 0)) (flw t N (0, q) f) := by
  have e : flw t N (0, q) f = (f, stF t N q) := by unfold flw; rw [if_pos rfl]
  rw [e]
  exact ⟨fun z => absurd z hf, fun _ => ⟨by rw [sF_ne (by decide), sF_at], by rw [sF_at]; exact hc.2.2.2.1⟩⟩
theorem FK_f {f g : Int → Int} {X : oV} : FK X (sF (sF X 9 f) 10 g) := fun k h => by rw [sF_ne (by omega), sF_ne (by omega)]
theorem gO_0 : gOn t N (0, q) = (0, nxF t N q) := by unfold gOn; rw [if_pos rfl]
theorem gO_f {f : Int} (hf : f ≠ 0) : gOn t N (flw t N (0, q) f) = flw t N (0, q) f := by unfold gOn; rw [if_neg (flw_1 hf)]
theorem cc_66 {i : Nat} (hi : i < 51) (ht : TX t N (V 0 0)) (hc : CT t N (V 84) q) (hq : ∀ X, FK (V 84) X → CS t N X (nds t N (0, q) (wK i)) → R (some (vB (decide ((nds t N (0, q) (wK i)).1 = 0)))) c (sO V 84 X)) : CC 7 66 [vR (some 84), vS i] c V R := by
  obtain ⟨⟨q0, q1⟩, x1, -, -, x4, -⟩ := id hc
  have nb := (nx_b (t := t) q0 q1).1
  refine CC_of mt_66 gb_66 (by decide) (by decide) (rcb_o k_84) (Nat.le_of_ble_eq_true rfl) fun n dd hn hd => ?_
  show WW (bX9_word (gOr n dd)) n [some (vR (some (84))), some (vS (i))] _ _ _
  unfold bX9_word
  have hn0 : 1000000000 ≤ n := hn
  have pw := PE_not (PE_cB (L := [some (vR (some 84)), some (vS i)]) (c := c) (V := V) (PE_aCR (PE_lR (i := 0) rfl) (PE_aCS (PE_lS (i := 1) rfl) PE_a0)) hn (pc_61 hi ht hc) (by omega : 6 ≤ dd))
  unfold nds at hq
  by_cases h : isW t N (0, q) (wK i) = true
  · rw [if_pos h, gO_0] at hq
    rw [h] at pw
    refine WW_se (WW_if pw (fun hb => by cases hb) (fun _ => WW_sk (SQ_n (WW_se (WW_cV (PE_aCR (PE_lR rfl) PE_a0) hn (cc_58 (q := nxF t N q) ht x1 x4 (by omega) (by omega) fun X hf hX => ⟨rfl, SQ_n (WW_rtB PE_kB ⟨_, rfl, rfl, ?_⟩)⟩) (by omega))))))
    exact hq X hf.fk ⟨fun _ => hX, fun z => absurd rfl z⟩
  · have h' : isW t N (0, q) (wK i) = false := by simpa using h
    rw [if_neg h, gO_f (by decide)] at hq
    rw [h'] at pw
    refine WW_se (WW_if pw (fun _ => WW_rtBE (EE_cB (PE_aCR (PE_lR rfl) (PE_aCI PE_kI PE_a0)) hn (cc_57 ⟨_, rfl, SQ_s ⟨_, rfl, rfl, ?_⟩⟩) (by omega))) (fun hb => by cases hb))
    have := hq _ FK_f (CS_f (f := 1) (by decide) hc)
    rwa [decide_eq_false (flw_1 (by decide))] at this
theorem cc_67 {lo hi : Int} (ht : TX t N (V 0 0)) (hc : CT t N (V 84) q) (hq : ∀ X, FK (V 84) X → CS t N X (rdS t N (0, q) lo hi) → ((rdS t N (0, q) lo hi).1 = 0 → X 6 0 = vlF t N q) → R (some (vB (decide ((rdS t N (0, q) lo hi).1 = 0)))) c (sO V 84 X)) : CC 3 67 [vR (some 84), vI lo, vI hi] c V R := by
  obtain ⟨⟨q0, q1⟩, x1, x2, x3, x4, x5⟩ := id hc
  have nb := (nx_b (t := t) q0 q1).1
  refine CC_of mt_67 gb_67 (by decide) (by decide) (rcb_o k_84) (Nat.le_of_ble_eq_true rfl) fun n dd hn hd => ?_
  show WW (bX9_whole (gOr n dd)) n [some (vR (some (84))), some (vI (lo)), some (vI (hi))] _ _ _
  unfold bX9_whole
  have hn0 : 1000000000 ≤ n := hn
  have p2 := PE_fI (ci := 9) (k := 2) (c := c) (V := V) (L := [some (vR (some 84)), some (vI lo), some (vI hi)]) rfl (PE_lR (i := 0) rfl) k_84
  have p5 := PE_fI (ci := 9) (k := 5) (c := c) (V := V) (L := [some (vR (some 84)), some (vI lo), some (vI hi)]) rfl (PE_lR (i := 0) rfl) k_84
  rw [x2] at p2
  unfold rdS bnS at hq
  by_cases k3 : kdF t N q = 3
  · rw [x5 k3] at p5
    rw [k3] at p2
    simp only [k3, true_and, if_true] at hq
    refine WW_se (WW_if (PE_cm (op := .ne) p2 PE_kI) (fun hb => by cases hb) (fun _ => WW_sk (SQ_n ?_)))
    have pb := PE_or (PE_cm (op := .lt) p5 (PE_lI (i := 1) rfl)) (fun _ => PE_cm (op := .gt) p5 (PE_lI (i := 2) rfl))
    by_cases hb : lo ≤ vlF t N q ∧ vlF t N q ≤ hi
    · rw [if_pos hb, gO_0] at hq
      have e : (cmB ClassFile.Cond.lt (vlF t N q) lo || cmB ClassFile.Cond.gt (vlF t N q) hi) = false := by
        simp only [cmB, Bool.or_eq_false_iff, decide_eq_false_iff_not]
        omega
      rw [e] at pb
      refine WW_se (WW_if pb (fun z => by cases z) (fun _ => WW_sk (SQ_n (WW_se (WW_pf rfl (PE_lR rfl) k_84 p5 (SQ_n ?_))))))
      have eV : sM V 84 6 (fun _ => vlF t N q) = sO V 84 (sF (V 84) 6 (fun _ => vlF t N q)) := rfl
      rw [eV]
      refine WW_se (WW_cV (PE_aCR (PE_lR rfl) PE_a0) hn (cc_58 (t := t) (N := N) (q := nxF t N q) (by rw [sO_ne (by decide)]; exact ht) (by rw [sO_at, sF_ne (by decide), sF_ne (by decide)]; exact x1) (by rw [sO_at, sF_ne (by decide)]; exact x4) (by omega) (by omega) fun X hf hX => ⟨rfl, SQ_n (WW_rtB PE_kB ⟨_, rfl, rfl, ?_⟩)⟩) (by omega))
      rw [sO_at] at hf
      rw [sO_sO]
      refine hq X (fun k hk => ?_) ⟨fun _ => hX, fun z => absurd rfl z⟩ (fun _ => ?_)
      · rw [hf k (by omega), sF_ne (by omega)]
      · rw [hf 6 (by omega), sF_at]
    · rw [if_neg hb, gO_f (by decide)] at hq
      have e : (cmB ClassFile.Cond.lt (vlF t N q) lo || cmB ClassFile.Cond.gt (vlF t N q) hi) = true := by
        simp only [cmB, Bool.or_eq_true, decide_eq_true_eq]
        omega
      rw [e] at pb
      refine WW_se (WW_if pb (fun _ => WW_rtBE (EE_cB (PE_aCR (PE_lR rfl) (PE_aCI PE_kI PE_a0)) hn (cc_57 ⟨_, rfl, SQ_s ⟨_, rfl, rfl, ?_⟩⟩) (by omega))) (fun z => by cases z))
      have := hq _ FK_f (CS_f (f := 4) (by decide) hc) (fun z => absurd z (flw_1 (by decide)))
      rwa [decide_eq_false (flw_1 (by decide))] at this
  · simp only [k3, and_false, if_false] at hq
    rw [gO_f (by decide)] at hq
    have e2 : kdC (kdF t N q) ≠ 2 := by
      rcases kdF_r (t := t) (N := N) (q := q) with e | e | e | e | e | e <;> rw [e] at k3 ⊢ <;> first | exact absurd rfl k3 | decide
    refine WW_se (WW_if (PE_cm (op := .ne) p2 PE_kI) (fun _ => WW_rtBE (EE_cB (PE_aCR (PE_lR rfl) (PE_aCI PE_kI PE_a0)) hn (cc_57 ⟨_, rfl, SQ_s ⟨_, rfl, rfl, ?_⟩⟩) (by omega))) (fun hb => absurd e2 (of_decide_eq_false hb)))
    have := hq _ FK_f (CS_f (f := 1) (by decide) hc) (fun z => absurd z (flw_1 (by decide)))
    rwa [decide_eq_false (flw_1 (by decide))] at this
end CWD
