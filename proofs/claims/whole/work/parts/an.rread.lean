/-! THE REFERENCE'S READER: words, wholes, names -/
def isW (t : Int → Int) (N : Int) (s : Int × Int) (w : Int) : Bool := decide (s.1 = 0) && (decide (kdF t N s.2 = 2) && decide (wdF t N s.2 = w))
def nds (t : Int → Int) (N : Int) (s : Int × Int) (w : Int) : Int × Int := gOn t N (if isW t N s w = true then s else flw t N s 1)
def ndC (t : Int → Int) (N : Int) (s : Int × Int) : Int × Int := gOn t N (if s.1 = 0 ∧ kdF t N s.2 = 5 then s else flw t N s 1)
def bnS (t : Int → Int) (N : Int) (s : Int × Int) (lo hi : Int) : Int × Int := if s.1 = 0 ∧ kdF t N s.2 = 3 then (if lo ≤ vlF t N s.2 ∧ vlF t N s.2 ≤ hi then s else flw t N s 4) else flw t N s 1
def bnV (t : Int → Int) (N : Int) (s : Int × Int) (lo hi : Int) : Int := if (bnS t N s lo hi).1 = 0 then vlF t N s.2 else lo
def rdS (t : Int → Int) (N : Int) (s : Int × Int) (lo hi : Int) : Int × Int := gOn t N (bnS t N s lo hi)
def nameB (t : Int → Int) (N : Int) (s : Int × Int) : Bool := (decide (s.1 = 0) && decide (kdF t N s.2 = 2)) && (!(isW t N s (wK 26)) && (!(isW t N s (wK 31)) && (!(isW t N s (wK 32)) && (!(isW t N s (wK 33)) && (!(isW t N s (wK 34)) && !(isW t N s (wK 35)))))))
def fdF (G : oV) (w : Int) : Int := fst1 (fun k => decide (G 8 k = w)) (-1) (G 4 0).toNat 0
def bgS (t : Int → Int) (N : Int) (G : oV) (s : Int × Int) (many most : Int) : Int × Int :=
  let s1 := if many = most then flw t N s 5 else s
  let s2 := if G 0 0 = 0 then flw t N s1 6 else s1
  gOn t N s2
def knS (t : Int → Int) (N : Int) (G : oV) (s : Int × Int) : Int × Int :=
  let s1 := if nameB t N s = true then s else flw t N s 1
  if s1.1 = 0 ∧ fdF G (wdF t N s1.2) = -1 then flw t N s1 2 else s1
def knV (t : Int → Int) (N : Int) (G : oV) (s : Int × Int) : Int := if (knS t N G s).1 = 0 then fdF G (wdF t N s.2) else 0
theorem flw_1 {t : Int → Int} {N : Int} {s : Int × Int} {f : Int} (hf : f ≠ 0) : (flw t N s f).1 ≠ 0 := by
  unfold flw
  split
  · exact hf
  · assumption
theorem gOn_1 {t : Int → Int} {N : Int} {s : Int × Int} : (gOn t N s).1 = s.1 := by
  unfold gOn
  split
  · rename_i h; exact h.symm
  · rfl
section RR
variable {c : cT} {V : Mem} {R : Option gAV → cT → Mem → Prop} {t : Int → Int} {N : Int} {s : Int × Int}
theorem FrT.tx {S T : oV} (h : FrT S T) (ht : TX t N (S 5)) : TX t N (T 5) := by rw [h 5 (by omega)]; exact ht
theorem cc_183 (ht : TX t N (V 305 5)) (hs : RS t N (V 305) s) (hk : s.1 = 0 → kdF t N s.2 ≠ 0) (hq : ∀ X, FrT (V 305) X → RS t N X (gOn t N s) → R none c (sO V 305 X)) : CC 3 183 [vR (some 305)] c V R := by
  obtain ⟨h7, h1, h2⟩ := hs
  by_cases h : s.1 = 0
  · obtain ⟨⟨q0, q1⟩, r14, r9, r10, r8, -⟩ := h1 h
    have hn := nx_b (t := t) q0 q1
    refine cx_183 (p := nxF t N s.2) ht h7 ?_ r14 (r8 (hk h)) (by omega) (by omega) fun X hf x7 hr => hq X hf ⟨x7, fun _ => ?_, fun q => absurd (gOn_1.trans h) q⟩
    · rw [r9]
      unfold kdR
      rcases kdF_r (t := t) (N := N) (q := s.2) with e | e | e | e | e | e <;> rw [e] <;> decide
    · unfold gOn
      rw [if_pos h]
      exact hr
  · have h9 := (h2 h).1
    have e : gOn t N s = s := by unfold gOn; rw [if_neg h]
    rw [e] at hq
    have hq' := hq (V 305) FrT.rf ⟨h7, fun q => absurd q h, h2⟩
    rw [sO_id] at hq'
    refine CC_of mt_183 gb_183 (by decide) (by decide) (rcb_o k_305) (Nat.le_of_ble_eq_true rfl) fun n dd hn hd => ?_
    show WW (bX13_goesOn (gOr n dd)) n [some (vR (some (305))), none, none] _ _ _
    unfold bX13_goesOn
    have hn0 : 1000000000 ≤ n := hn
    exact WW_se (WW_se (WW_if (PE_cm (PE_fI rfl (PE_lR rfl) k_305) PE_kI) (fun _ => WW_rtV (SQ_s (SQ_s ⟨_, rfl, rfl, hq'⟩))) (fun hb => absurd h9 (of_decide_eq_false hb))))
theorem cc_184 {f : Int} (hf : f ≠ 0) (hs : RS t N (V 305) s) (hq : ∀ X, FrT (V 305) X → RS t N X (flw t N s f) → R none c (sO V 305 X)) : CC 1 184 [vR (some 305), vI f] c V R := by
  obtain ⟨h7, h1, h2⟩ := hs
  have up : ∀ (X : oV) (k : Nat) (f : Int → Int), sM (sO V 305 X) 305 k f = sO V 305 (sF X k f) := fun X k f => by rw [sM, sO_sO, sO_at]
  have up0 : ∀ (k : Nat) (f : Int → Int), sM V 305 k f = sO V 305 (sF (V 305) k f) := fun k f => rfl
  refine CC_of mt_184 gb_184 (by decide) (by decide) (rcb_o k_305) (Nat.le_of_ble_eq_true rfl) fun n dd hn hd => ?_
  show WW (bX13_flaw (gOr n dd)) n [some (vR (some (305))), some (vI (f))] _ _ _
  unfold bX13_flaw
  have hn0 : 1000000000 ≤ n := hn
  by_cases h : s.1 = 0
  · obtain ⟨⟨q0, q1⟩, r14, r9, r10, -⟩ := h1 h
    have h9 : ¬ V 305 9 0 = 5 := by
      rw [r9]
      unfold kdR
      rcases kdF_r (t := t) (N := N) (q := s.2) with e | e | e | e | e | e <;> rw [e] <;> decide
    refine WW_se (WW_se (WW_if (PE_cm (PE_fI rfl (PE_lR rfl) k_305) PE_kI) (fun hb => absurd (of_decide_eq_true hb) h9) (fun _ => WW_sk (SQ_n ?_))))
    refine WW_se (WW_pf rfl (PE_lR rfl) k_305 (PE_lI rfl) (SQ_n ?_))
    rw [up0]
    have p10 := PE_fI (ci := 13) (k := 10) (c := c) (V := sO V 305 (sF (V 305) 14 (fun _ => f))) (L := [some (vR (some 305)), some (vI f)]) rfl (PE_lR (i := 0) rfl) k_305
    rw [sO_at, sF_ne (by decide), r10] at p10
    refine WW_se (WW_pf rfl (PE_lR rfl) k_305 p10 (SQ_n (WW_pf rfl (PE_lR rfl) k_305 PE_kI (SQ_n (WW_rtV ⟨_, rfl, rfl, ?_⟩)))))
    rw [up, up]
    refine hq _ (((FrT.rf.ws (by omega) (by omega)).ws (by omega) (by omega)).ws (by omega) (by omega)) ⟨?_, fun q => absurd q (flw_1 hf), fun _ => ?_⟩
    · rw [sF_ne (by decide), sF_ne (by decide), sF_ne (by decide)]; exact h7
    · unfold flw
      rw [if_pos h]
      exact ⟨by rw [sF_at], by rw [sF_ne (by decide), sF_ne (by decide), sF_at], by rw [sF_ne (by decide), sF_at]⟩
  · have h9 := (h2 h).1
    have e : flw t N s f = s := by unfold flw; rw [if_neg h]
    rw [e] at hq
    have hq' := hq (V 305) FrT.rf ⟨h7, fun q => absurd q h, h2⟩
    rw [sO_id] at hq'
    exact WW_se (WW_se (WW_if (PE_cm (PE_fI rfl (PE_lR rfl) k_305) PE_kI) (fun _ => WW_rtV (SQ_s (SQ_s ⟨_, rfl, rfl, hq'⟩))) (fun hb => absurd h9 (of_decide_eq_false hb))))
/-- the sort that the fields say -/
theorem RS_9 (hs : RS t N (V 305) s) : V 305 9 0 = if s.1 = 0 then kdR (kdF t N s.2) else 5 := by
  obtain ⟨h7, h1, h2⟩ := hs
  by_cases h : s.1 = 0
  · rw [if_pos h]; exact (h1 h).2.2.1
  · rw [if_neg h]; exact (h2 h).1
theorem kdR_2 {k : Int} (h : k = 0 ∨ k = 1 ∨ k = 2 ∨ k = 3 ∨ k = 4 ∨ k = 5) : (kdR k = 2 ↔ k = 2) ∧ (kdR k = 3 ↔ k = 3) ∧ (kdR k = 1 ↔ k = 1) ∧ kdR k ≠ 5 ∧ (kdR k = 4 ↔ k = 4 ∨ k = 5) := by
  unfold kdR
  rcases h with e | e | e | e | e | e <;> rw [e] <;> decide
theorem pc_185 {i : Nat} (hi : i < 51) (hs : RS t N (V 305) s) : PC 7 185 [vR (some 305), vS i] c V (some (vB (isW t N s (wK i)))) := by
  have h9 := RS_9 hs
  refine PC_of ?_
  refine CC_of mt_185 gb_185 (by decide) (by decide) (rcb_o k_305) (Nat.le_of_ble_eq_true rfl) fun n dd hn hd => ?_
  show WW (bX13_isWord (gOr n dd)) n [some (vR (some (305))), some (vS (i))] _ _ _
  unfold bX13_isWord
  have hn0 : 1000000000 ≤ n := hn
  have p9 := PE_fI (ci := 13) (k := 9) (c := c) (V := V) (L := [some (vR (some 305)), some (vS i)]) rfl (PE_lR (i := 0) rfl) k_305
  have p17 := PE_fL (ci := 13) (k := 17) (c := c) (V := V) (L := [some (vR (some 305)), some (vS i)]) rfl (PE_lR (i := 0) rfl) k_305
  refine WW_rtB (PE_and (PE_cm p9 PE_kI) (fun _ => PE_cm p17 (PE_cL (PE_aCS (PE_lS rfl) PE_a0) hn (pc_182 hi) (by omega)))) ⟨_, rfl, rtb_B, ?_, rfl, rfl⟩
  congr 2
  unfold isW
  by_cases h : s.1 = 0
  · rw [if_pos h] at h9
    have kr := kdR_2 (kdF_r (t := t) (N := N) (q := s.2))
    by_cases hk : kdF t N s.2 = 2
    · have h17 := ((hs.2.1 h).2.2.2.2.2.2.2.2 hk).2.1
      have e1 : cmB ClassFile.Cond.eq (V 305 9 0) 2 = true := decide_eq_true (by rw [h9]; exact kr.1.mpr hk)
      rw [e1, decide_eq_true h, decide_eq_true hk, h17]
      rfl
    · have e1 : cmB ClassFile.Cond.eq (V 305 9 0) 2 = false := decide_eq_false (by rw [h9]; exact fun q => hk (kr.1.mp q))
      rw [e1, decide_eq_false hk, Bool.false_and, Bool.false_and, Bool.and_false]
  · rw [if_neg h] at h9
    have e1 : cmB ClassFile.Cond.eq (V 305 9 0) 2 = false := decide_eq_false (by rw [h9]; decide)
    rw [e1, decide_eq_false h]
    rfl
theorem isW_k {w : Int} (h : isW t N s w = true) : s.1 = 0 ∧ kdF t N s.2 = 2 ∧ wdF t N s.2 = w := by
  unfold isW at h
  simp only [Bool.and_eq_true, decide_eq_true_eq] at h
  exact h
theorem cc_187 {i : Nat} (hi : i < 51) (ht : TX t N (V 305 5)) (hs : RS t N (V 305) s) (hq : ∀ X, FrT (V 305) X → RS t N X (nds t N s (wK i)) → R none c (sO V 305 X)) : CC 8 187 [vR (some 305), vS i] c V R := by
  refine CC_of mt_187 gb_187 (by decide) (by decide) (rcb_o k_305) (Nat.le_of_ble_eq_true rfl) fun n dd hn hd => ?_
  show WW (bX13_needs (gOr n dd)) n [some (vR (some (305))), some (vS (i))] _ _ _
  unfold bX13_needs
  have hn0 : 1000000000 ≤ n := hn
  unfold nds at hq
  have pw := PE_not (PE_cB (L := [some (vR (some 305)), some (vS i)]) (PE_aCR (PE_lR (i := 0) rfl) (PE_aCS (PE_lS (i := 1) rfl) PE_a0)) hn (pc_185 (c := c) hi hs) (by omega : 7 ≤ dd))
  by_cases h : isW t N s (wK i) = true
  · rw [if_pos h] at hq
    have hw := isW_k h
    rw [h] at pw
    refine WW_se (WW_se (WW_if pw (fun hb => by cases hb) (fun _ => WW_sk (SQ_n ?_))))
    exact WW_cV (PE_aCR (PE_lR rfl) PE_a0) hn (cc_183 ht hs (fun _ => by omega) fun X hf hr => ⟨rfl, SQ_n (WW_rtV ⟨_, rfl, rfl, hq X hf hr⟩)⟩) (by omega)
  · rw [if_neg h] at hq
    have h' : isW t N s (wK i) = false := by simpa using h
    rw [h'] at pw
    refine WW_se (WW_se (WW_if pw (fun _ => ?_) (fun hb => by cases hb)))
    refine WW_cV (PE_aCR (PE_lR rfl) (PE_aCI PE_kI PE_a0)) hn (cc_184 (by decide) hs fun X hf hr => ⟨rfl, SQ_n ?_⟩) (by omega)
    refine WW_cV (PE_aCR (PE_lR rfl) PE_a0) hn (cc_183 (s := flw t N s 1) (by rw [sO_at]; exact hf.tx ht) (by rw [sO_at]; exact hr) (fun q => absurd q (flw_1 (by decide))) fun X2 hf2 hr2 => ⟨rfl, SQ_n (WW_rtV ⟨_, rfl, rfl, ?_⟩)⟩) (by omega)
    rw [sO_at] at hf2
    rw [sO_sO]
    exact hq X2 (hf.tr hf2) hr2
theorem cc_188 (ht : TX t N (V 305 5)) (hs : RS t N (V 305) s) (hq : ∀ X, FrT (V 305) X → RS t N X (ndC t N s) → R none c (sO V 305 X)) : CC 8 188 [vR (some 305)] c V R := by
  have h9 := RS_9 hs
  refine CC_of mt_188 gb_188 (by decide) (by decide) (rcb_o k_305) (Nat.le_of_ble_eq_true rfl) fun n dd hn hd => ?_
  show WW (bX13_needsComma (gOr n dd)) n [some (vR (some (305)))] _ _ _
  unfold bX13_needsComma
  have hn0 : 1000000000 ≤ n := hn
  unfold ndC at hq
  have p9 := PE_fI (ci := 13) (k := 9) (c := c) (V := V) (L := [some (vR (some 305))]) rfl (PE_lR (i := 0) rfl) k_305
  have p11 := PE_fI (ci := 13) (k := 11) (c := c) (V := V) (L := [some (vR (some 305))]) rfl (PE_lR (i := 0) rfl) k_305
  have pc := PE_or (PE_cm (op := .ne) p9 (PE_kI (z := 4))) (fun _ => PE_cm (op := .ne) p11 (PE_kI (z := 44)))
  have kr := kdR_2 (kdF_r (t := t) (N := N) (q := s.2))
  have eb : (cmB ClassFile.Cond.ne (V 305 9 0) 4 || cmB ClassFile.Cond.ne (V 305 11 0) 44) = decide (¬ (s.1 = 0 ∧ kdF t N s.2 = 5)) := by
    apply Bool.eq_iff_iff.mpr
    simp only [cmB, Bool.or_eq_true, decide_eq_true_eq]
    by_cases h : s.1 = 0
    · rw [if_pos h] at h9
      obtain ⟨-, -, -, -, -, r4, r5, -⟩ := hs.2.1 h
      rw [h9]
      constructor
      · rintro (q | q) ⟨-, k5⟩
        · exact q (kr.2.2.2.2.mpr (Or.inr k5))
        · exact q (r5 k5)
      · intro q
        by_cases k4 : kdR (kdF t N s.2) = 4
        · right
          rcases kr.2.2.2.2.mp k4 with k | k
          · rw [r4 k]; decide
          · exact absurd ⟨h, k⟩ q
        · exact Or.inl k4
    · rw [if_neg h] at h9
      rw [h9]
      exact ⟨fun _ q => h q.1, fun _ => Or.inl (by decide)⟩
  rw [eb] at pc
  by_cases h : s.1 = 0 ∧ kdF t N s.2 = 5
  · rw [if_pos h] at hq
    refine WW_se (WW_se (WW_if pc (fun hb => absurd h (of_decide_eq_true hb)) (fun _ => WW_sk (SQ_n ?_))))
    exact WW_cV (PE_aCR (PE_lR rfl) PE_a0) hn (cc_183 ht hs (fun _ => by omega) fun X hf hr => ⟨rfl, SQ_n (WW_rtV ⟨_, rfl, rfl, hq X hf hr⟩)⟩) (by omega)
  · rw [if_neg h] at hq
    refine WW_se (WW_se (WW_if pc (fun _ => ?_) (fun hb => absurd h (of_decide_eq_false hb))))
    refine WW_cV (PE_aCR (PE_lR rfl) (PE_aCI PE_kI PE_a0)) hn (cc_184 (by decide) hs fun X hf hr => ⟨rfl, SQ_n ?_⟩) (by omega)
    refine WW_cV (PE_aCR (PE_lR rfl) PE_a0) hn (cc_183 (s := flw t N s 1) (by rw [sO_at]; exact hf.tx ht) (by rw [sO_at]; exact hr) (fun q => absurd q (flw_1 (by decide))) fun X2 hf2 hr2 => ⟨rfl, SQ_n (WW_rtV ⟨_, rfl, rfl, ?_⟩)⟩) (by omega)
    rw [sO_at] at hf2
    rw [sO_sO]
    exact hq X2 (hf.tr hf2) hr2
theorem cc_189 {lo hi : Int} (hs : RS t N (V 305) s) (hq : ∀ X, FrT (V 305) X → RS t N X (bnS t N s lo hi) → R (some (vI (bnV t N s lo hi))) c (sO V 305 X)) : CC 3 189 [vR (some 305), vI lo, vI hi] c V R := by
  have h9 := RS_9 hs
  have kr := kdR_2 (kdF_r (t := t) (N := N) (q := s.2))
  refine CC_of mt_189 gb_189 (by decide) (by decide) (rcb_o k_305) (Nat.le_of_ble_eq_true rfl) fun n dd hn hd => ?_
  show WW (bX13_bounded (gOr n dd)) n [some (vR (some (305))), some (vI (lo)), some (vI (hi))] _ _ _
  unfold bX13_bounded
  have hn0 : 1000000000 ≤ n := hn
  -- what is answered of a state behind
  have fin : ∀ {X : oV}, FrT (V 305) X → RS t N X (bnS t N s lo hi) → ((bnS t N s lo hi).1 = 0 → X 12 0 = vlF t N s.2) → WW (rtI (gIte (cmC .eq (fI 13 9 (lR 0)) (kI 5)) (lI 1) (fI 13 12 (lR 0)))) n [some (vR (some 305)), some (vI lo), some (vI hi)] c (sO V 305 X) (fun ex _ c' V' => ∃ v, ex = some (3, v) ∧ gRtB (some FieldType.int) v = true ∧ R v c' V') := by
    intro X hf hr h12
    have x9 := RS_9 (V := sO V 305 X) (by rw [sO_at]; exact hr)
    have p9 := PE_fI (ci := 13) (k := 9) (c := c) (V := sO V 305 X) (L := [some (vR (some 305)), some (vI lo), some (vI hi)]) rfl (PE_lR (i := 0) rfl) k_305
    have p12 := PE_fI (ci := 13) (k := 12) (c := c) (V := sO V 305 X) (L := [some (vR (some 305)), some (vI lo), some (vI hi)]) rfl (PE_lR (i := 0) rfl) k_305
    refine WW_rt (PE_ite (PE_cm p9 PE_kI) (fun _ => PE_lI rfl) (fun _ => p12)) ⟨_, rfl, rfl, ?_⟩
    have hqq := hq X hf hr
    unfold bnV at hqq
    by_cases h : (bnS t N s lo hi).1 = 0
    · rw [if_pos h] at hqq x9
      have kr2 := kdR_2 (kdF_r (t := t) (N := N) (q := (bnS t N s lo hi).2))
      have e1 : ¬ cmB ClassFile.Cond.eq (sO V 305 X 305 9 0) 5 = true := fun q => kr2.2.2.2.1 (x9 ▸ of_decide_eq_true q)
      rw [if_neg e1, sO_at, h12 h]
      exact hqq
    · rw [if_neg h] at hqq x9
      have e1 : cmB ClassFile.Cond.eq (sO V 305 X 305 9 0) 5 = true := decide_eq_true x9
      rw [if_pos e1]
      exact hqq
  have p9 := PE_fI (ci := 13) (k := 9) (c := c) (V := V) (L := [some (vR (some 305)), some (vI lo), some (vI hi)]) rfl (PE_lR (i := 0) rfl) k_305
  by_cases h : s.1 = 0 ∧ kdF t N s.2 = 3
  · rw [if_pos h.1] at h9
    have h12 := (hs.2.1 h.1).2.2.2.2.2.2.2.1 h.2
    have hn9 : ¬ cmB ClassFile.Cond.ne (V 305 9 0) 3 = true := fun q => of_decide_eq_true q (by rw [h9]; exact kr.2.1.mpr h.2)
    refine WW_se (WW_if (PE_cm p9 PE_kI) (fun hb => absurd hb hn9) (fun _ => ?_))
    have p12 := PE_fI (ci := 13) (k := 12) (c := c) (V := V) (L := [some (vR (some 305)), some (vI lo), some (vI hi)]) rfl (PE_lR (i := 0) rfl) k_305
    rw [h12] at p12
    have pin := PE_not (PE_cB (PE_aCI p12 (PE_aCI (PE_lI (i := 1) rfl) (PE_aCI (PE_lI (i := 2) rfl) PE_a0))) hn (pc_176 (c := c)) (by omega : 1 ≤ dd))
    by_cases hb : lo ≤ vlF t N s.2 ∧ vlF t N s.2 ≤ hi
    · have e1 : bnS t N s lo hi = s := by unfold bnS; rw [if_pos h, if_pos hb]
      rw [decide_eq_true hb.1, decide_eq_true hb.2] at pin
      refine WW_if pin (fun q => by cases q) (fun _ => WW_sk (SQ_n ?_))
      have := fin (X := V 305) FrT.rf (by rw [e1]; exact hs) (fun _ => h12)
      rw [sO_id] at this
      exact this
    · have e1 : bnS t N s lo hi = flw t N s 4 := by unfold bnS; rw [if_pos h, if_neg hb]
      have e2 : (decide (lo ≤ vlF t N s.2) && decide (vlF t N s.2 ≤ hi)) = false := by rw [← Bool.decide_and]; exact decide_eq_false hb
      rw [e2] at pin
      refine WW_if pin (fun _ => ?_) (fun q => by cases q)
      exact WW_cV (PE_aCR (PE_lR rfl) (PE_aCI PE_kI PE_a0)) hn (cc_184 (by decide) hs fun X hf hr => ⟨rfl, SQ_n (fin hf (by rw [e1]; exact hr) (fun q => absurd q (by rw [e1]; exact flw_1 (by decide))))⟩) (by omega)
  · have e1 : bnS t N s lo hi = flw t N s 1 := by unfold bnS; rw [if_neg h]
    have hn9 : cmB ClassFile.Cond.ne (V 305 9 0) 3 = true := decide_eq_true (by
      rw [h9]
      split
      · rename_i h0
        exact fun q => h ⟨h0, kr.2.1.mp q⟩
      · decide)
    refine WW_se (WW_if (PE_cm p9 PE_kI) (fun _ => ?_) (fun hb => by rw [hn9] at hb; cases hb))
    exact WW_cV (PE_aCR (PE_lR rfl) (PE_aCI PE_kI PE_a0)) hn (cc_184 (by decide) hs fun X hf hr => ⟨rfl, SQ_n (fin hf (by rw [e1]; exact hr) (fun q => absurd q (by rw [e1]; exact flw_1 (by decide))))⟩) (by omega)
theorem bnS_k {lo hi : Int} (h : (bnS t N s lo hi).1 = 0) : bnS t N s lo hi = s ∧ s.1 = 0 ∧ kdF t N s.2 = 3 ∧ lo ≤ vlF t N s.2 ∧ vlF t N s.2 ≤ hi := by
  unfold bnS at h ⊢
  split at h
  · rename_i h1
    split at h
    · rename_i h2
      rw [if_pos h1, if_pos h2]
      exact ⟨rfl, h1.1, h1.2, h2.1, h2.2⟩
    · exact absurd h (flw_1 (by decide))
  · exact absurd h (flw_1 (by decide))
theorem cc_190 {lo hi : Int} (ht : TX t N (V 305 5)) (hs : RS t N (V 305) s) (hq : ∀ X, FrT (V 305) X → RS t N X (rdS t N s lo hi) → R (some (vI (bnV t N s lo hi))) c (sO V 305 X)) : CC 5 190 [vR (some 305), vI lo, vI hi] c V R := by
  refine CC_of mt_190 gb_190 (by decide) (by decide) (rcb_o k_305) (Nat.le_of_ble_eq_true rfl) fun n dd hn hd => ?_
  show WW (bX13_readWhole (gOr n dd)) n [some (vR (some (305))), some (vI (lo)), some (vI (hi)), none] _ _ _
  unfold bX13_readWhole
  have hn0 : 1000000000 ≤ n := hn
  refine WW_se (WW_stE (EE_cIx hn (EE_pe (PE_aCR (PE_lR rfl) (PE_aCI (PE_lI rfl) (PE_aCI (PE_lI rfl) PE_a0))) (cc_189 hs fun X hf hr => ⟨_, rfl, SQ_n ?_⟩)) (by omega)))
  refine WW_se (WW_cV (PE_aCR (PE_lR rfl) PE_a0) hn (cc_183 (s := bnS t N s lo hi) (by rw [sO_at]; exact hf.tx ht) (by rw [sO_at]; exact hr) (fun q => ?_) fun X2 hf2 hr2 => ⟨rfl, SQ_n (WW_rt (PE_lI rfl) ⟨_, rfl, rfl, ?_⟩)⟩) (by omega))
  · obtain ⟨e, -, k3, -⟩ := bnS_k q
    rw [e]
    omega
  · rw [sO_at] at hf2
    rw [sO_sO]
    exact hq X2 (hf.tr hf2) hr2
theorem cc_191 {i : Nat} {lo hi : Int} (hi' : i < 51) (ht : TX t N (V 305 5)) (hs : RS t N (V 305) s) (hq : ∀ X, FrT (V 305) X → RS t N X (rdS t N (nds t N s (wK i)) lo hi) → R (some (vI (bnV t N (nds t N s (wK i)) lo hi))) c (sO V 305 X)) : CC 9 191 [vR (some 305), vS i, vI lo, vI hi] c V R := by
  refine CC_of mt_191 gb_191 (by decide) (by decide) (rcb_o k_305) (Nat.le_of_ble_eq_true rfl) fun n dd hn hd => ?_
  show WW (bX13_readPart (gOr n dd)) n [some (vR (some (305))), some (vS (i)), some (vI (lo)), some (vI (hi))] _ _ _
  unfold bX13_readPart
  have hn0 : 1000000000 ≤ n := hn
  refine WW_se (WW_cV (PE_aCR (PE_lR rfl) (PE_aCS (PE_lS rfl) PE_a0)) hn (cc_187 hi' ht hs fun X hf hr => ⟨rfl, SQ_n ?_⟩) (by omega))
  refine WW_rtE (EE_cIx hn (EE_pe (PE_aCR (PE_lR rfl) (PE_aCI (PE_lI rfl) (PE_aCI (PE_lI rfl) PE_a0))) (cc_190 (s := nds t N s (wK i)) (by rw [sO_at]; exact hf.tx ht) (by rw [sO_at]; exact hr) fun X2 hf2 hr2 => ⟨_, rfl, _, rfl, rfl, ?_⟩)) (by omega))
  rw [sO_at] at hf2
  rw [sO_sO]
  exact hq X2 (hf.tr hf2) hr2
theorem pc_192 (hs : RS t N (V 305) s) : PC 8 192 [vR (some 305)] c V (some (vB (nameB t N s))) := by
  have h9 := RS_9 hs
  have kr := kdR_2 (kdF_r (t := t) (N := N) (q := s.2))
  refine PC_of ?_
  refine CC_of mt_192 gb_192 (by decide) (by decide) (rcb_o k_305) (Nat.le_of_ble_eq_true rfl) fun n dd hn hd => ?_
  show WW (bX13_isName (gOr n dd)) n [some (vR (some (305)))] _ _ _
  unfold bX13_isName
  have hn0 : 1000000000 ≤ n := hn
  have p9 := PE_fI (ci := 13) (k := 9) (c := c) (V := V) (L := [some (vR (some 305))]) rfl (PE_lR (i := 0) rfl) k_305
  have pw : ∀ i, i < 51 → PE (notC (cB (gOr n dd) 185 (aCR (lR 0) (aCS (kS i) (a0))))) [some (vR (some 305))] c V (!(isW t N s (wK i))) := fun i hi => PE_not (PE_cB (PE_aCR (PE_lR rfl) (PE_aCS PE_kS PE_a0)) hn (pc_185 hi hs) (by omega))
  refine WW_rtB (PE_and (PE_and (PE_and (PE_and (PE_and (PE_and (PE_cm p9 PE_kI) (fun _ => pw 26 (by decide))) (fun _ => pw 31 (by decide))) (fun _ => pw 32 (by decide))) (fun _ => pw 33 (by decide))) (fun _ => pw 34 (by decide))) (fun _ => pw 35 (by decide))) ⟨_, rfl, rtb_B, ?_, rfl, rfl⟩
  have e1 : cmB ClassFile.Cond.eq (V 305 9 0) 2 = (decide (s.1 = 0) && decide (kdF t N s.2 = 2)) := by
    apply Bool.eq_iff_iff.mpr
    simp only [cmB, Bool.and_eq_true, decide_eq_true_eq]
    rw [h9]
    by_cases h : s.1 = 0
    · rw [if_pos h, kr.1]
      exact ⟨fun q => ⟨h, q⟩, fun q => q.2⟩
    · rw [if_neg h]
      exact ⟨fun q => absurd q (by decide), fun q => absurd q.1 h⟩
  rw [e1]
  unfold nameB
  simp only [Bool.and_assoc]
theorem pc_165 {r : Nat} {w : Int} (hr : mcl c.1 r = some 12) (h0 : 0 ≤ V r 4 0) (h7 : V r 4 0 ≤ 7) : PC 1 165 [vR (some r), vL w] c V (some (vI (fdF (V r) w))) := by
  refine PC_of ?_
  refine CC_of mt_165 gb_165 (by decide) (by decide) (rcb_o hr) (Nat.le_of_ble_eq_true rfl) fun n dd hn hd => ?_
  show WW (bX12_find (gOr n dd)) n [some (vR (some (r))), some (vL (w)), none, none] _ _ _
  unfold bX12_find
  have hn0 : 1000000000 ≤ n := hn
  refine WW_se (WW_se (WW_st PE_kI (SQ_n ?_)))
  refine WW_for 900000000 0 (V r 4 0) (fun j L1 c1 V1 => L1 = [some (vR (some r)), some (vL w), none, some (vI j)] ∧ c1 = c ∧ V1 = V ∧ ∀ i : Int, 0 ≤ i → i < j → ¬ V r 8 i = w) (by omega) (by omega) (by omega) (by omega) ⟨rfl, rfl, rfl, fun i i0 i1 => by omega⟩ ?_ ?_ ?_
  · rintro j _ c V j0 j1 ⟨rfl, rfl, rfl, hj⟩
    exact ⟨rfl, PE_fI rfl (PE_lR rfl) hr⟩
  · rintro j k' _ c V j0 j1 hk' ⟨rfl, rfl, rfl, hj⟩
    refine WW_if (PE_cm (PE_aF (ty := 2) rfl (by decide) (PE_lR rfl) hr (PE_lI rfl) j0 (by omega)) (PE_lL rfl)) (fun hb => ?_) (fun hb => WW_sk (LQ_n ⟨rfl, rfl, rfl, rfl, fun i i0 i1 => ?_⟩))
    · have hb : V r 8 j = w := of_decide_eq_true hb
      have ef : fdF (V r) w = j := fst1_at j0 (by omega) (by simp [hb]) fun i i0 i1 => decide_eq_false (hj i i0 i1)
      rw [ef]
      exact WW_rt (PE_lI rfl) (LQ_r ⟨_, rfl, rfl, rfl, rfl, rfl⟩)
    · have hb : ¬ V r 8 j = w := of_decide_eq_false hb
      by_cases e : i = j
      · rw [e]; exact hb
      · exact hj i i0 (by omega)
  · rintro _ c V ⟨rfl, rfl, rfl, hj⟩
    have ef : fdF (V r) w = -1 := fst1_no fun i i0 i1 => decide_eq_false (hj i i0 (by omega))
    rw [ef]
    exact SQ_n (WW_rt PE_kI ⟨_, rfl, rfl, rfl, rfl, rfl⟩)
/-- the glass that is read -/
def RD (c : cT) (V : Mem) (r : Nat) : Prop := V 305 4 0 = (r : Int) ∧ mcl c.1 r = some 12 ∧ r ≠ 305
theorem RD_x {r : Nat} {X : oV} (h : RD c V r) (hf : FrT (V 305) X) : RD c (sO V 305 X) r := ⟨by rw [sO_at, hf 4 (by omega)]; exact h.1, h.2⟩
theorem cc_193 {r : Nat} {a b : Int} (hr : RD c V r) (ht : TX t N (V 305 5)) (hs : RS t N (V 305) s) (hk : s.1 = 0 → kdF t N s.2 ≠ 0) (hq : ∀ X, FrT (V 305) X → RS t N X (bgS t N (V r) s a b) → R none c (sO V 305 X)) : CC 5 193 [vR (some 305), vI a, vI b] c V R := by
  have up : ∀ (X : oV) (k : Nat) (f : Int → Int), sM (sO V 305 X) 305 k f = sO V 305 (sF X k f) := fun X k f => by rw [sM, sO_sO, sO_at]
  refine CC_of mt_193 gb_193 (by decide) (by decide) (rcb_o k_305) (Nat.le_of_ble_eq_true rfl) fun n dd hn hd => ?_
  show WW (bX13_begins (gOr n dd)) n [some (vR (some (305))), some (vI (a)), some (vI (b))] _ _ _
  unfold bX13_begins
  have hn0 : 1000000000 ≤ n := hn
  have st2 : ∀ {X : oV} {s1 : Int × Int}, FrT (V 305) X → RS t N X s1 → (s1.1 = 0 → kdF t N s1.2 ≠ 0) → (∀ X, FrT (V 305) X → RS t N X (gOn t N (if V r 0 0 = 0 then flw t N s1 6 else s1)) → R none c (sO V 305 X)) → WW (seS (ifS (czC .eq (fI 12 0 (fR 13 4 (lR 0)))) (cV (gOr n dd) 184 (aCR (lR 0) (aCI (kI 6) (a0)))) skS) (cV (gOr n dd) 183 (aCR (lR 0) (a0)))) n [some (vR (some 305)), some (vI a), some (vI b)] c (sO V 305 X) (SQ rtV n (fun ex _ c' V' => ∃ v, ex = some (3, v) ∧ gRtB none v = true ∧ R v c' V')) := by
    intro X s1 hf h1 hk1 hq
    have hr1 := RD_x hr hf
    have p0 := PE_fI (ci := 12) (k := 0) (c := c) (V := sO V 305 X) (L := [some (vR (some 305)), some (vI a), some (vI b)]) rfl (PE_fP rfl (PE_lR (i := 0) rfl) k_305 hr1.1) hr.2.1
    rw [sO_ne hr.2.2] at p0
    by_cases h0 : V r 0 0 = 0
    · rw [if_pos h0] at hq
      refine WW_se (WW_if (PE_cz p0) (fun _ => ?_) (fun hb => absurd h0 (of_decide_eq_false hb)))
      refine WW_cV (PE_aCR (PE_lR rfl) (PE_aCI PE_kI PE_a0)) hn (cc_184 (s := s1) (by decide) (by rw [sO_at]; exact h1) fun X2 hf2 h2 => ⟨rfl, SQ_n ?_⟩) (by omega)
      rw [sO_at] at hf2
      rw [sO_sO]
      refine WW_cV (PE_aCR (PE_lR rfl) PE_a0) hn (cc_183 (s := flw t N s1 6) (by rw [sO_at]; exact (hf.tr hf2).tx ht) (by rw [sO_at]; exact h2) (fun q => absurd q (flw_1 (by decide))) fun X3 hf3 h3 => ⟨rfl, SQ_n (WW_rtV ⟨_, rfl, rfl, ?_⟩)⟩) (by omega)
      rw [sO_at] at hf3
      rw [sO_sO]
      exact hq X3 ((hf.tr hf2).tr hf3) h3
    · rw [if_neg h0] at hq
      refine WW_se (WW_if (PE_cz p0) (fun hb => absurd (of_decide_eq_true hb) h0) (fun _ => WW_sk (SQ_n ?_)))
      refine WW_cV (PE_aCR (PE_lR rfl) PE_a0) hn (cc_183 (s := s1) (by rw [sO_at]; exact hf.tx ht) (by rw [sO_at]; exact h1) hk1 fun X3 hf3 h3 => ⟨rfl, SQ_n (WW_rtV ⟨_, rfl, rfl, ?_⟩)⟩) (by omega)
      rw [sO_at] at hf3
      rw [sO_sO]
      exact hq X3 (hf.tr hf3) h3
  unfold bgS at hq
  dsimp only at hq
  by_cases hab : a = b
  · rw [if_pos hab] at hq
    refine WW_se (WW_se (WW_if (PE_cm (PE_lI rfl) (PE_lI rfl)) (fun _ => ?_) (fun hb => absurd hab (of_decide_eq_false hb))))
    exact WW_cV (PE_aCR (PE_lR rfl) (PE_aCI PE_kI PE_a0)) hn (cc_184 (by decide) hs fun X hf h1 => ⟨rfl, SQ_n (st2 hf h1 (fun q => absurd q (flw_1 (by decide))) hq)⟩) (by omega)
  · rw [if_neg hab] at hq
    refine WW_se (WW_se (WW_if (PE_cm (PE_lI rfl) (PE_lI rfl)) (fun hb => absurd (of_decide_eq_true hb) hab) (fun _ => WW_sk (SQ_n ?_))))
    have := st2 (X := V 305) FrT.rf hs hk hq
    rw [sO_id] at this
    exact this
theorem nameB_k (h : nameB t N s = true) : s.1 = 0 ∧ kdF t N s.2 = 2 := by
  unfold nameB at h
  simp only [Bool.and_eq_true, decide_eq_true_eq] at h
  exact h.1
theorem cc_194 {r : Nat} (hr : RD c V r) (h0 : 0 ≤ V r 4 0) (h7 : V r 4 0 ≤ 7) (hs : RS t N (V 305) s) (hq : ∀ X, FrT (V 305) X → RS t N X (knS t N (V r) s) → R (some (vI (knV t N (V r) s))) c (sO V 305 X)) : CC 10 194 [vR (some 305)] c V R := by
  refine CC_of mt_194 gb_194 (by decide) (by decide) (rcb_o k_305) (Nat.le_of_ble_eq_true rfl) fun n dd hn hd => ?_
  show WW (bX13_known (gOr n dd)) n [some (vR (some (305))), none] _ _ _
  unfold bX13_known
  have hn0 : 1000000000 ≤ n := hn
  -- behind the name's test
  have st2 : ∀ {X : oV} {s1 : Int × Int}, FrT (V 305) X → RS t N X s1 → s1 = (if nameB t N s = true then s else flw t N s 1) → WW (seS (stI 1 (cI (gOr n dd) 165 (aCR (fR 13 4 (lR 0)) (aCL (fL 13 17 (lR 0)) (a0))))) (seS (ifS (cmC .eq (lI 1) (kI (-1))) (cV (gOr n dd) 184 (aCR (lR 0) (aCI (kI 2) (a0)))) skS) (rtI (gIte (cmC .eq (fI 13 9 (lR 0)) (kI 5)) (kI 0) (lI 1))))) n [some (vR (some 305)), none] c (sO V 305 X) (fun ex _ c' V' => ∃ v, ex = some (3, v) ∧ gRtB (some FieldType.int) v = true ∧ R v c' V') := by
    intro X s1 hf h1 hs1
    have hr1 := RD_x hr hf
    have er : sO V 305 X r = V r := sO_ne hr.2.2
    have p17 := PE_fL (ci := 13) (k := 17) (c := c) (V := sO V 305 X) (L := [some (vR (some 305)), none]) rfl (PE_lR (i := 0) rfl) k_305
    rw [sO_at] at p17
    have pf := pc_165 (c := c) (V := sO V 305 X) (w := X 17 0) hr.2.1 (by rw [er]; exact h0) (by rw [er]; exact h7)
    rw [er] at pf
    refine WW_se (WW_st (PE_cI (PE_aCR (PE_fP rfl (PE_lR rfl) k_305 hr1.1) (PE_aCL p17 PE_a0)) hn pf (by omega)) (SQ_n ?_))
    have eks : knS t N (V r) s = if s1.1 = 0 ∧ fdF (V r) (wdF t N s1.2) = -1 then flw t N s1 2 else s1 := by unfold knS; rw [hs1]
    -- the answer
    have ans : ∀ {X2 : oV} {z : Int}, FrT (V 305) X2 → RS t N X2 (knS t N (V r) s) → ((knS t N (V r) s).1 = 0 → z = fdF (V r) (wdF t N s.2)) → WW (rtI (gIte (cmC .eq (fI 13 9 (lR 0)) (kI 5)) (kI 0) (lI 1))) n [some (vR (some 305)), some (vI z)] c (sO V 305 X2) (fun ex _ c' V' => ∃ v, ex = some (3, v) ∧ gRtB (some FieldType.int) v = true ∧ R v c' V') := by
      intro X2 z hf2 h2 hz
      have x9 := RS_9 (V := sO V 305 X2) (by rw [sO_at]; exact h2)
      have p9 := PE_fI (ci := 13) (k := 9) (c := c) (V := sO V 305 X2) (L := [some (vR (some 305)), some (vI z)]) rfl (PE_lR (i := 0) rfl) k_305
      refine WW_rt (PE_ite (PE_cm p9 PE_kI) (fun _ => PE_kI) (fun _ => PE_lI rfl)) ⟨_, rfl, rfl, ?_⟩
      have hqq := hq X2 hf2 h2
      unfold knV at hqq
      by_cases h : (knS t N (V r) s).1 = 0
      · rw [if_pos h] at hqq x9
        have kr2 := kdR_2 (kdF_r (t := t) (N := N) (q := (knS t N (V r) s).2))
        have e1 : ¬ cmB ClassFile.Cond.eq (sO V 305 X2 305 9 0) 5 = true := fun q => kr2.2.2.2.1 (x9 ▸ of_decide_eq_true q)
        rw [if_neg e1, hz h]
        exact hqq
      · rw [if_neg h] at hqq x9
        have e1 : cmB ClassFile.Cond.eq (sO V 305 X2 305 9 0) 5 = true := decide_eq_true x9
        rw [if_pos e1]
        exact hqq
    by_cases hon : s1.1 = 0
    · have hnb : nameB t N s = true := by
        by_cases q : nameB t N s = true
        · exact q
        · rw [hs1, if_neg q] at hon
          exact absurd hon (flw_1 (by decide))
      have es : s1 = s := by rw [hs1, if_pos hnb]
      have h17 : X 17 0 = wdF t N s.2 := by
        rw [es] at h1
        exact ((h1.2.1 (nameB_k hnb).1).2.2.2.2.2.2.2.2 (nameB_k hnb).2).2.1
      rw [h17]
      by_cases hfd : fdF (V r) (wdF t N s.2) = -1
      · have e2 : knS t N (V r) s = flw t N s 2 := by rw [eks, es, if_pos ⟨by rw [← es]; exact hon, hfd⟩]
        rw [es] at h1
        refine WW_se (WW_if (PE_cm (PE_lI rfl) PE_kI) (fun _ => ?_) (fun hb => absurd hfd (of_decide_eq_false hb)))
        refine WW_cV (PE_aCR (PE_lR rfl) (PE_aCI PE_kI PE_a0)) hn (cc_184 (s := s) (by decide) (by rw [sO_at]; exact h1) fun X2 hf2 h2 => ⟨rfl, SQ_n ?_⟩) (by omega)
        rw [sO_at] at hf2
        rw [sO_sO]
        exact ans (hf.tr hf2) (by rw [e2]; exact h2) (fun q => absurd q (by rw [e2]; exact flw_1 (by decide)))
      · have e2 : knS t N (V r) s = s := by rw [eks, es, if_neg (fun q => hfd q.2)]
        rw [es] at h1
        refine WW_se (WW_if (PE_cm (PE_lI rfl) PE_kI) (fun hb => absurd (of_decide_eq_true hb) hfd) (fun _ => WW_sk (SQ_n ?_)))
        exact ans hf (by rw [e2]; exact h1) (fun _ => rfl)
    · have e2 : knS t N (V r) s = s1 := by rw [eks, if_neg (fun q => hon q.1)]
      by_cases hfd : fdF (V r) (X 17 0) = -1
      · refine WW_se (WW_if (PE_cm (PE_lI rfl) PE_kI) (fun _ => ?_) (fun hb => absurd hfd (of_decide_eq_false hb)))
        refine WW_cV (PE_aCR (PE_lR rfl) (PE_aCI PE_kI PE_a0)) hn (cc_184 (s := s1) (by decide) (by rw [sO_at]; exact h1) fun X2 hf2 h2 => ⟨rfl, SQ_n ?_⟩) (by omega)
        have e3 : flw t N s1 2 = s1 := by unfold flw; rw [if_neg hon]
        rw [sO_at] at hf2
        rw [sO_sO]
        exact ans (hf.tr hf2) (by rw [e2, ← e3]; exact h2) (fun q => absurd q (by rw [e2]; exact hon))
      · refine WW_se (WW_if (PE_cm (PE_lI rfl) PE_kI) (fun hb => absurd (of_decide_eq_true hb) hfd) (fun _ => WW_sk (SQ_n ?_)))
        exact ans hf (by rw [e2]; exact h1) (fun q => absurd q (by rw [e2]; exact hon))
  have pn := PE_not (PE_cB (L := [some (vR (some 305)), none]) (PE_aCR (PE_lR (i := 0) rfl) PE_a0) hn (pc_192 (c := c) hs) (by omega : 8 ≤ dd))
  by_cases h : nameB t N s = true
  · rw [h] at pn
    refine WW_se (WW_if pn (fun hb => by cases hb) (fun _ => WW_sk (SQ_n ?_)))
    have := st2 (X := V 305) FrT.rf hs (by rw [if_pos h])
    rw [sO_id] at this
    exact this
  · have h' : nameB t N s = false := by simpa using h
    rw [h'] at pn
    refine WW_se (WW_if pn (fun _ => ?_) (fun hb => by cases hb))
    exact WW_cV (PE_aCR (PE_lR rfl) (PE_aCI PE_kI PE_a0)) hn (cc_184 (by decide) hs fun X hf h1 => ⟨rfl, SQ_n (st2 hf h1 (by rw [if_neg h]))⟩) (by omega)
end RR
