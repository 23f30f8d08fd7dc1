/-! THE REFERENCE'S READER: lines -/
def MR (V : Mem) (r : Nat) (X Z : oV) : Mem := sO (sO V r Z) 305 X
section RL
variable {c : cT} {V : Mem} {r : Nat} {X Z : oV} {Q : gEx → gLo → cT → Mem → Prop} {L : gLo} {t : Int → Int} {N : Int} {s : Int × Int} {n n' dd i : Nat}
theorem MR_5 : MR V r X Z 305 = X := sO_at
theorem MR_r (h : r ≠ 305) : MR V r X Z r = Z := by unfold MR; rw [sO_ne h, sO_at]
theorem MR_o {a : Nat} (h1 : a ≠ 305) (h2 : a ≠ r) : MR V r X Z a = V a := by unfold MR; rw [sO_ne h1, sO_ne h2]
theorem MR_x {X' : oV} : sO (MR V r X Z) 305 X' = MR V r X' Z := by unfold MR; rw [sO_sO]
theorem MR_id (h : r ≠ 305) : MR V r (V 305) (V r) = V := by
  unfold MR
  rw [sO_id]
  exact sO_id
theorem MR_z {k : Nat} {f : Int → Int} (h : r ≠ 305) : sM (MR V r X Z) r k f = MR V r X (sF Z k f) := by
  rw [sM, MR_r h]
  unfold MR
  funext b
  by_cases h1 : b = 305
  · subst h1
    rw [sO_ne (Ne.symm h), sO_at, sO_at]
  · by_cases h2 : b = r
    · subst h2
      rw [sO_at, sO_ne h1, sO_at]
    · rw [sO_ne h2, sO_ne h1, sO_ne h2, sO_ne h1, sO_ne h2]
theorem MR_sx {k : Nat} {f : Int → Int} : sM (MR V r X Z) 305 k f = MR V r (sF X k f) Z := by
  rw [sM, MR_5, MR_x]
theorem RD_m (hr : RD c V r) (hf : FrT (V 305) X) : RD c (MR V r X Z) r := ⟨by rw [MR_5, hf 4 (by omega)]; exact hr.1, hr.2⟩
theorem rl_183 (hr : RD c V r) (ht : TX t N (V 305 5)) (hn : nB ≤ n') (hd : 3 ≤ dd) (hl : L[0]? = some (some (vR (some 305)))) (hf : FrT (V 305) X) (hs : RS t N X s) (hk : s.1 = 0 → kdF t N s.2 ≠ 0) (hq : ∀ X', FrT (V 305) X' → RS t N X' (gOn t N s) → Q none L c (MR V r X' Z)) : WW (cV (gOr n' dd) 183 (aCR (lR 0) (a0))) n L c (MR V r X Z) Q :=
  WW_cV (PE_aCR (PE_lR hl) PE_a0) hn (cc_183 (s := s) (by rw [MR_5]; exact hf.tx ht) (by rw [MR_5]; exact hs) hk fun X' hf' hs' => ⟨rfl, by rw [MR_x]; exact hq X' (hf.tr (by rw [MR_5] at hf'; exact hf')) hs'⟩) hd
theorem rl_184 {f : Int} (hf0 : f ≠ 0) (hn : nB ≤ n') (hd : 1 ≤ dd) (hl : L[0]? = some (some (vR (some 305)))) (hf : FrT (V 305) X) (hs : RS t N X s) (hq : ∀ X', FrT (V 305) X' → RS t N X' (flw t N s f) → Q none L c (MR V r X' Z)) : WW (cV (gOr n' dd) 184 (aCR (lR 0) (aCI (kI f) (a0)))) n L c (MR V r X Z) Q :=
  WW_cV (PE_aCR (PE_lR hl) (PE_aCI PE_kI PE_a0)) hn (cc_184 (s := s) hf0 (by rw [MR_5]; exact hs) fun X' hf' hs' => ⟨rfl, by rw [MR_x]; exact hq X' (hf.tr (by rw [MR_5] at hf'; exact hf')) hs'⟩) hd
theorem rl_187 (hi : i < 51) (ht : TX t N (V 305 5)) (hn : nB ≤ n') (hd : 8 ≤ dd) (hl : L[0]? = some (some (vR (some 305)))) (hf : FrT (V 305) X) (hs : RS t N X s) (hq : ∀ X', FrT (V 305) X' → RS t N X' (nds t N s (wK i)) → Q none L c (MR V r X' Z)) : WW (cV (gOr n' dd) 187 (aCR (lR 0) (aCS (kS i) (a0)))) n L c (MR V r X Z) Q :=
  WW_cV (PE_aCR (PE_lR hl) (PE_aCS PE_kS PE_a0)) hn (cc_187 (s := s) hi (by rw [MR_5]; exact hf.tx ht) (by rw [MR_5]; exact hs) fun X' hf' hs' => ⟨rfl, by rw [MR_x]; exact hq X' (hf.tr (by rw [MR_5] at hf'; exact hf')) hs'⟩) hd
theorem rl_188 (ht : TX t N (V 305 5)) (hn : nB ≤ n') (hd : 8 ≤ dd) (hl : L[0]? = some (some (vR (some 305)))) (hf : FrT (V 305) X) (hs : RS t N X s) (hq : ∀ X', FrT (V 305) X' → RS t N X' (ndC t N s) → Q none L c (MR V r X' Z)) : WW (cV (gOr n' dd) 188 (aCR (lR 0) (a0))) n L c (MR V r X Z) Q :=
  WW_cV (PE_aCR (PE_lR hl) PE_a0) hn (cc_188 (s := s) (by rw [MR_5]; exact hf.tx ht) (by rw [MR_5]; exact hs) fun X' hf' hs' => ⟨rfl, by rw [MR_x]; exact hq X' (hf.tr (by rw [MR_5] at hf'; exact hf')) hs'⟩) hd
theorem rl_189 {j : Nat} {e1 e2 : gIE} {lo hi : Int} (hn : nB ≤ n') (hd : 3 ≤ dd) (hl : L[0]? = some (some (vR (some 305)))) (h1 : PE e1 L c (MR V r X Z) lo) (h2 : PE e2 L c (MR V r X Z) hi) (hf : FrT (V 305) X) (hs : RS t N X s) (hq : ∀ X', FrT (V 305) X' → RS t N X' (bnS t N s lo hi) → Q none (gSet j (vI (bnV t N s lo hi)) L) c (MR V r X' Z)) : WW (stI j (cI (gOr n' dd) 189 (aCR (lR 0) (aCI e1 (aCI e2 (a0)))))) n L c (MR V r X Z) Q :=
  WW_stE (EE_cIx hn (EE_pe (PE_aCR (PE_lR hl) (PE_aCI h1 (PE_aCI h2 PE_a0))) (cc_189 (s := s) (by rw [MR_5]; exact hs) fun X' hf' hs' => ⟨_, rfl, by rw [MR_x]; exact hq X' (hf.tr (by rw [MR_5] at hf'; exact hf')) hs'⟩)) hd)
theorem rl_190 {j : Nat} {e1 e2 : gIE} {lo hi : Int} (ht : TX t N (V 305 5)) (hn : nB ≤ n') (hd : 5 ≤ dd) (hl : L[0]? = some (some (vR (some 305)))) (h1 : PE e1 L c (MR V r X Z) lo) (h2 : PE e2 L c (MR V r X Z) hi) (hf : FrT (V 305) X) (hs : RS t N X s) (hq : ∀ X', FrT (V 305) X' → RS t N X' (rdS t N s lo hi) → Q none (gSet j (vI (bnV t N s lo hi)) L) c (MR V r X' Z)) : WW (stI j (cI (gOr n' dd) 190 (aCR (lR 0) (aCI e1 (aCI e2 (a0)))))) n L c (MR V r X Z) Q :=
  WW_stE (EE_cIx hn (EE_pe (PE_aCR (PE_lR hl) (PE_aCI h1 (PE_aCI h2 PE_a0))) (cc_190 (s := s) (by rw [MR_5]; exact hf.tx ht) (by rw [MR_5]; exact hs) fun X' hf' hs' => ⟨_, rfl, by rw [MR_x]; exact hq X' (hf.tr (by rw [MR_5] at hf'; exact hf')) hs'⟩)) hd)
theorem rl_191 {j : Nat} {lo hi : Int} (hi' : i < 51) (ht : TX t N (V 305 5)) (hn : nB ≤ n') (hd : 9 ≤ dd) (hl : L[0]? = some (some (vR (some 305)))) (hf : FrT (V 305) X) (hs : RS t N X s) (hq : ∀ X', FrT (V 305) X' → RS t N X' (rdS t N (nds t N s (wK i)) lo hi) → Q none (gSet j (vI (bnV t N (nds t N s (wK i)) lo hi)) L) c (MR V r X' Z)) : WW (stI j (cI (gOr n' dd) 191 (aCR (lR 0) (aCS (kS i) (aCI (kI lo) (aCI (kI hi) (a0))))))) n L c (MR V r X Z) Q :=
  WW_stE (EE_cIx hn (EE_pe (PE_aCR (PE_lR hl) (PE_aCS PE_kS (PE_aCI PE_kI (PE_aCI PE_kI PE_a0)))) (cc_191 (s := s) hi' (by rw [MR_5]; exact hf.tx ht) (by rw [MR_5]; exact hs) fun X' hf' hs' => ⟨_, rfl, by rw [MR_x]; exact hq X' (hf.tr (by rw [MR_5] at hf'; exact hf')) hs'⟩)) hd)
theorem rl_193 {e1 : gIE} {a b : Int} (hr : RD c V r) (ht : TX t N (V 305 5)) (hn : nB ≤ n') (hd : 5 ≤ dd) (hl : L[0]? = some (some (vR (some 305)))) (h1 : PE e1 L c (MR V r X Z) a) (hf : FrT (V 305) X) (hs : RS t N X s) (hk : s.1 = 0 → kdF t N s.2 ≠ 0) (hq : ∀ X', FrT (V 305) X' → RS t N X' (bgS t N Z s a b) → Q none L c (MR V r X' Z)) : WW (cV (gOr n' dd) 193 (aCR (lR 0) (aCI e1 (aCI (kI b) (a0))))) n L c (MR V r X Z) Q :=
  WW_cV (PE_aCR (PE_lR hl) (PE_aCI h1 (PE_aCI PE_kI PE_a0))) hn (cc_193 (s := s) (RD_m hr hf) (by rw [MR_5]; exact hf.tx ht) (by rw [MR_5]; exact hs) hk fun X' hf' hs' => ⟨rfl, by rw [MR_x]; rw [MR_r hr.2.2] at hs'; exact hq X' (hf.tr (by rw [MR_5] at hf'; exact hf')) hs'⟩) hd
theorem rl_194 {j : Nat} (hr : RD c V r) (hn : nB ≤ n') (hd : 10 ≤ dd) (hl : L[0]? = some (some (vR (some 305)))) (h0 : 0 ≤ Z 4 0) (h7 : Z 4 0 ≤ 7) (hf : FrT (V 305) X) (hs : RS t N X s) (hq : ∀ X', FrT (V 305) X' → RS t N X' (knS t N Z s) → Q none (gSet j (vI (knV t N Z s)) L) c (MR V r X' Z)) : WW (stI j (cI (gOr n' dd) 194 (aCR (lR 0) (a0)))) n L c (MR V r X Z) Q :=
  WW_stE (EE_cIx hn (EE_pe (PE_aCR (PE_lR hl) PE_a0) (cc_194 (s := s) (RD_m hr hf) (by rw [MR_r hr.2.2]; exact h0) (by rw [MR_r hr.2.2]; exact h7) (by rw [MR_5]; exact hs) fun X' hf' hs' => ⟨_, rfl, by
    rw [MR_r hr.2.2] at hs' ⊢
    rw [MR_x]
    exact hq X' (hf.tr (by rw [MR_5] at hf'; exact hf')) hs'⟩)) hd)
theorem rl_w (hi : i < 51) (hn : nB ≤ n') (hd : 7 ≤ dd) (hl : L[0]? = some (some (vR (some 305)))) (hs : RS t N X s) : PE (cB (gOr n' dd) 185 (aCR (lR 0) (aCS (kS i) (a0)))) L c (MR V r X Z) (isW t N s (wK i)) := PE_cB (PE_aCR (PE_lR hl) (PE_aCS PE_kS PE_a0)) hn (pc_185 hi (by rw [MR_5]; exact hs)) hd
theorem rl_n (hn : nB ≤ n') (hd : 8 ≤ dd) (hl : L[0]? = some (some (vR (some 305)))) (hs : RS t N X s) : PE (cB (gOr n' dd) 192 (aCR (lR 0) (a0))) L c (MR V r X Z) (nameB t N s) := PE_cB (PE_aCR (PE_lR hl) PE_a0) hn (pc_192 (by rw [MR_5]; exact hs)) hd
theorem rl_f {k : Nat} {p M : Nat} (hl : L[0]? = some (some (vR (some 305)))) (hk : (tab 13)[k]? = some (0, p, M)) : PE (fI 13 k (lR 0)) L c (MR V r X Z) (X k 0) := by
  have := PE_fI (c := c) (V := MR V r X Z) (L := L) hk (PE_lR hl) k_305
  rwa [MR_5] at this
theorem rl_g (hr : RD c V r) (hf : FrT (V 305) X) (hl : L[0]? = some (some (vR (some 305)))) : PE (fR 13 4 (lR 0)) L c (MR V r X Z) (some r) := PE_fP rfl (PE_lR hl) k_305 (RD_m hr hf).1
theorem rl_G {k : Nat} {p M : Nat} (hr : RD c V r) (hf : FrT (V 305) X) (hl : L[0]? = some (some (vR (some 305)))) (hk : (tab 12)[k]? = some (0, p, M)) : PE (fI 12 k (fR 13 4 (lR 0))) L c (MR V r X Z) (Z k 0) := by
  have := PE_fI (c := c) (V := MR V r X Z) (L := L) hk (rl_g hr hf hl) hr.2.1
  rwa [MR_r hr.2.2] at this
theorem rl_A {k : Nat} {ty p M : Nat} {e : gIE} {x : Int} (hr : RD c V r) (hf : FrT (V 305) X) (hl : L[0]? = some (some (vR (some 305)))) (hk : (tab 12)[k]? = some (ty + 2, p, M)) (hty : ty < 4) (he : PE e L c (MR V r X Z) x) (h0 : 0 ≤ x) (h1 : x < M) : PE (aI ty (fR 12 k (fR 13 4 (lR 0))) e) L c (MR V r X Z) (Z k x) := by
  have := PE_aF (c := c) (V := MR V r X Z) (L := L) hk hty (rl_g hr hf hl) hr.2.1 he h0 h1
  rwa [MR_r hr.2.2] at this
theorem WW_eq {V' : Mem} {b : gSt} (e : V = V') (h : WW b n L c V' Q) : WW b n L c V Q := by rw [e]; exact h
/-- a flaw, where something holds -/
theorem rl_if {e : gCE} {B : Bool} {f : Int} (hf0 : f ≠ 0) (he : PE e L c (MR V r X Z) B) (hn : nB ≤ n') (hd : 1 ≤ dd) (hl : L[0]? = some (some (vR (some 305)))) (hf : FrT (V 305) X) (hs : RS t N X s) (hq : ∀ X', FrT (V 305) X' → RS t N X' (if B = true then flw t N s f else s) → Q none L c (MR V r X' Z)) : WW (ifS e (cV (gOr n' dd) 184 (aCR (lR 0) (aCI (kI f) (a0)))) skS) n L c (MR V r X Z) Q := by
  cases B with
  | true => exact WW_if he (fun _ => rl_184 hf0 hn hd hl hf hs hq) (fun q => by cases q)
  | false => exact WW_if he (fun q => by cases q) (fun _ => WW_sk (hq X hf hs))
/-- whether it is over -/
theorem rl_ov (hl : L[0]? = some (some (vR (some 305)))) (hs : RS t N X s) : PE (cmC .eq (fI 13 9 (lR 0)) (kI 5)) L c (MR V r X Z) (decide (¬ s.1 = 0)) := by
  have h9 := RS_9 (V := MR V r X Z) (by rw [MR_5]; exact hs)
  have p9 := PE_cm (op := .eq) (rl_f (c := c) (V := V) (r := r) (X := X) (Z := Z) (L := L) (k := 9) hl rfl) (PE_kI (z := 5))
  have e : cmB ClassFile.Cond.eq (X 9 0) 5 = decide (¬ s.1 = 0) := by
    rw [MR_5] at h9
    rw [h9]
    have kr := kdR_2 (kdF_r (t := t) (N := N) (q := s.2))
    by_cases h : s.1 = 0
    · rw [if_pos h, decide_eq_false (fun q => q h)]
      exact decide_eq_false kr.2.2.2.1
    · rw [if_neg h, decide_eq_true h]
      rfl
  rwa [e] at p9
theorem rl_no (hl : L[0]? = some (some (vR (some 305)))) (hs : RS t N X s) : PE (cmC .ne (fI 13 9 (lR 0)) (kI 5)) L c (MR V r X Z) (decide (s.1 = 0)) := by
  have h9 := RS_9 (V := MR V r X Z) (by rw [MR_5]; exact hs)
  have p9 := PE_cm (op := .ne) (rl_f (c := c) (V := V) (r := r) (X := X) (Z := Z) (L := L) (k := 9) hl rfl) (PE_kI (z := 5))
  have e : cmB ClassFile.Cond.ne (X 9 0) 5 = decide (s.1 = 0) := by
    rw [MR_5] at h9
    rw [h9]
    have kr := kdR_2 (kdF_r (t := t) (N := N) (q := s.2))
    by_cases h : s.1 = 0
    · rw [if_pos h, decide_eq_true h]
      exact decide_eq_true kr.2.2.2.1
    · rw [if_neg h, decide_eq_false h]
      rfl
  rwa [e] at p9
theorem rl_nw (hl : L[0]? = some (some (vR (some 305)))) (hs : RS t N X s) : PE (cmC .ne (fI 13 9 (lR 0)) (kI 2)) L c (MR V r X Z) (decide (¬ (s.1 = 0 ∧ kdF t N s.2 = 2))) := by
  have h9 := RS_9 (V := MR V r X Z) (by rw [MR_5]; exact hs)
  have p9 := PE_cm (op := .ne) (rl_f (c := c) (V := V) (r := r) (X := X) (Z := Z) (L := L) (k := 9) hl rfl) (PE_kI (z := 2))
  have e : cmB ClassFile.Cond.ne (X 9 0) 2 = decide (¬ (s.1 = 0 ∧ kdF t N s.2 = 2)) := by
    rw [MR_5] at h9
    have kr := kdR_2 (kdF_r (t := t) (N := N) (q := s.2))
    show decide (¬ X 9 0 = 2) = _
    congr 1
    apply propext
    rw [h9]
    by_cases h : s.1 = 0
    · rw [if_pos h, kr.1]
      exact ⟨fun q z => q z.2, fun q z => q ⟨h, z⟩⟩
    · rw [if_neg h]
      exact ⟨fun _ z => h z.1, fun _ => by decide⟩
  rwa [e] at p9
end RL
/-! glass -/
def gA (t : Int → Int) (N : Int) (G : oV) (s : Int × Int) : Int × Int := gOn t N (if 0 < G 0 0 then flw t N s 3 else s)
def gA1 (t : Int → Int) (N : Int) (G : oV) (s : Int × Int) : Int × Int := rdS t N (nds t N (gA t N G s) (wK 27)) 2 30
def gA2 (t : Int → Int) (N : Int) (G : oV) (s : Int × Int) : Int × Int := rdS t N (nds t N (gA1 t N G s) (wK 28)) 2 8
def gA3 (t : Int → Int) (N : Int) (G : oV) (s : Int × Int) : Int × Int := rdS t N (nds t N (gA2 t N G s) (wK 29)) 1 6
def gA4 (t : Int → Int) (N : Int) (G : oV) (s : Int × Int) : Int × Int := rdS t N (nds t N (gA3 t N G s) (wK 30)) 0 100
def gZg (t : Int → Int) (N : Int) (G : oV) (s : Int × Int) : oV := sF (sF (sF (sF G 0 (fun _ => bnV t N (nds t N (gA t N G s) (wK 27)) 2 30)) 1 (fun _ => bnV t N (nds t N (gA1 t N G s) (wK 28)) 2 8)) 2 (fun _ => bnV t N (nds t N (gA2 t N G s) (wK 29)) 1 6)) 3 (fun _ => bnV t N (nds t N (gA3 t N G s) (wK 30)) 0 100)
/-! moves -/
def mA (t : Int → Int) (N : Int) (G : oV) (s : Int × Int) : Int × Int := bgS t N G s (G 5 0) 10
def mB (t : Int → Int) (N : Int) (G : oV) (s : Int × Int) : Int × Int := rdS t N (mA t N G s) 0 (G 0 0 - 1)
def mC (t : Int → Int) (N : Int) (G : oV) (s : Int × Int) : Int × Int := rdS t N (mB t N G s) 0 (G 1 0 - 1)
def mD2 (t : Int → Int) (N : Int) (G : oV) (s : Int × Int) : Int × Int := ndC t N (mC t N G s)
def mE (t : Int → Int) (N : Int) (G : oV) (s : Int × Int) : Int × Int :=
  let b := bnS t N (mD2 t N G s) 0 (G 1 0 - 1)
  gOn t N (if b.1 = 0 ∧ bnV t N (mB t N G s) 0 (G 1 0 - 1) = bnV t N (mD2 t N G s) 0 (G 1 0 - 1) then flw t N b 3 else b)
def mZ (t : Int → Int) (N : Int) (G : oV) (s : Int × Int) : oV := sF (sF (sF (sF G 19 (gUz (G 19) (G 5 0) (bnV t N (mA t N G s) 0 (G 0 0 - 1)))) 20 (gUz (G 20) (G 5 0) (bnV t N (mB t N G s) 0 (G 1 0 - 1)))) 21 (gUz (G 21) (G 5 0) (bnV t N (mD2 t N G s) 0 (G 1 0 - 1)))) 5 (fun _ => G 5 0 + 1)
/-! says -/
def yA (t : Int → Int) (N : Int) (G : oV) (s : Int × Int) : Int × Int := bgS t N G s (G 7 0) 8
def yB (t : Int → Int) (N : Int) (G : oV) (s : Int × Int) : Int × Int := gOn t N (knS t N G (yA t N G s))
def yC (t : Int → Int) (N : Int) (G : oV) (s : Int × Int) : Int × Int := rdS t N (yB t N G s) 0 (G 0 0 - 1)
def yD (t : Int → Int) (N : Int) (G : oV) (s : Int × Int) : Int × Int := rdS t N (yC t N G s) 0 (G 1 0 - 1)
def yZ (t : Int → Int) (N : Int) (G : oV) (s : Int × Int) : oV := sF (sF (sF (sF G 24 (gUz (G 24) (G 7 0) (knV t N G (yA t N G s)))) 25 (gUz (G 25) (G 7 0) (bnV t N (yB t N G s) 0 (G 0 0 - 1)))) 26 (gUz (G 26) (G 7 0) (bnV t N (yC t N G s) 0 (G 1 0 - 1)))) 7 (fun _ => G 7 0 + 1)
/-! stays -/
def aA (t : Int → Int) (N : Int) (G : oV) (s : Int × Int) : Int × Int := bgS t N G s 0 1
def aP (t : Int → Int) (N : Int) (G : oV) (s : Int × Int) : Int := knV t N G (aA t N G s)
def aBk (t : Int → Int) (N : Int) (G : oV) (s : Int × Int) : Int × Int :=
  let b := knS t N G (aA t N G s)
  gOn t N (if b.1 = 0 ∧ G 15 (aP t N G s) = 3 then flw t N b 5 else b)
def aLo (t : Int → Int) (N : Int) (G : oV) (s : Int × Int) : Int := if ¬ (aBk t N G s).1 = 0 ∨ G 15 (aP t N G s) = 0 then 0 else G 17 (3 * aP t N G s + G 15 (aP t N G s) - 1) + 1
def aC (t : Int → Int) (N : Int) (G : oV) (s : Int × Int) : Int × Int := rdS t N (aBk t N G s) (aLo t N G s) (G 0 0 - 1)
def aF (t : Int → Int) (N : Int) (G : oV) (s : Int × Int) : Int := bnV t N (aBk t N G s) (aLo t N G s) (G 0 0 - 1)
def aD (t : Int → Int) (N : Int) (G : oV) (s : Int × Int) : Int × Int := nds t N (aC t N G s) (wK 50)
def aE (t : Int → Int) (N : Int) (G : oV) (s : Int × Int) : Int × Int := rdS t N (aD t N G s) (aF t N G s) (G 0 0 - 1)
def aT (t : Int → Int) (N : Int) (G : oV) (s : Int × Int) : Int := bnV t N (aD t N G s) (aF t N G s) (G 0 0 - 1)
def aZ (t : Int → Int) (N : Int) (G : oV) (s : Int × Int) : oV :=
  let p := aP t N G s
  sF (sF (sF G 16 (gUz (G 16) (3 * p + G 15 p) (aF t N G s))) 17 (gUz (G 17) (3 * p + G 15 p) (aT t N G s))) 15 (gUz (G 15) p (G 15 p + 1))
/-- a glass that is being read -/
def GQ (G : oV) : Prop := (0 ≤ G 0 0 ∧ G 0 0 ≤ 30) ∧ (0 ≤ G 1 0 ∧ G 1 0 ≤ 8) ∧ (0 ≤ G 2 0 ∧ G 2 0 ≤ 6) ∧ (0 ≤ G 4 0 ∧ G 4 0 ≤ 7) ∧ (0 ≤ G 5 0 ∧ G 5 0 ≤ 10) ∧ (0 ≤ G 6 0 ∧ G 6 0 ≤ 6) ∧ (0 ≤ G 7 0 ∧ G 7 0 ≤ 8) ∧ (∀ p, 0 ≤ p → p < 7 → 0 ≤ G 15 p ∧ G 15 p ≤ 3) ∧ (∀ i, 0 ≤ i → i < 21 → 0 ≤ G 17 i ∧ G 17 i ≤ 30)
section RM
variable {c : cT} {V : Mem} {r : Nat} {R : Option gAV → cT → Mem → Prop} {t : Int → Int} {N : Int} {s : Int × Int}
theorem cc_197 (hr : RD c V r) (ht : TX t N (V 305 5)) (hs : RS t N (V 305) s) (hk : s.1 = 0 → kdF t N s.2 = 2) (hq : ∀ X Z, FrT (V 305) X → RS t N X (gA4 t N (V r) s) → ((gA4 t N (V r) s).1 = 0 → Z = gZg t N (V r) s) → R none c (MR V r X Z)) : CC 11 197 [vR (some 305)] c V R := by
  have h5 := hr.2.2
  refine CC_of mt_197 gb_197 (by decide) (by decide) (rcb_o k_305) (Nat.le_of_ble_eq_true rfl) fun n dd hn hd => ?_
  show WW (bX13_readGlass (gOr n dd)) n [some (vR (some (305))), none, none, none, none] _ _ _
  unfold bX13_readGlass
  have hn0 : 1000000000 ≤ n := hn
  refine WW_eq (MR_id h5).symm ?_
  refine WW_se (WW_se (rl_if (B := decide (0 < V r 0 0)) (by decide) (PE_cz (rl_G hr FrT.rf rfl rfl)) hn (by omega) rfl FrT.rf hs fun X hf h1 => SQ_n ?_))
  simp only [decide_eq_true_eq] at h1
  refine WW_se (rl_183 hr ht hn (by omega) rfl hf h1 (fun q => ?_) fun X1 hf1 h2 => SQ_n ?_)
  · by_cases h0 : 0 < V r 0 0
    · rw [if_pos h0] at q; exact absurd q (flw_1 (by decide))
    · rw [if_neg h0] at q ⊢
      have := hk q
      omega
  refine WW_se (rl_191 (s := gA t N (V r) s) (by decide) ht hn (by omega) rfl hf1 h2 fun X2 hf2 h3 => SQ_n ?_)
  refine WW_se (rl_191 (s := gA1 t N (V r) s) (by decide) ht hn (by omega) rfl hf2 h3 fun X3 hf3 h4 => SQ_n ?_)
  refine WW_se (rl_191 (s := gA2 t N (V r) s) (by decide) ht hn (by omega) rfl hf3 h4 fun X4 hf4 h5' => SQ_n ?_)
  refine WW_se (rl_191 (s := gA3 t N (V r) s) (by decide) ht hn (by omega) rfl hf4 h5' fun X5 hf5 h6 => SQ_n ?_)
  have h6 : RS t N X5 (gA4 t N (V r) s) := h6
  refine WW_se (WW_if (rl_ov rfl h6) (fun hb => WW_rtV (SQ_s (SQ_s ⟨_, rfl, rfl, hq X5 (V r) hf5 h6 fun q => absurd q (of_decide_eq_true hb)⟩))) (fun hb => WW_sk (SQ_n ?_)))
  refine WW_se (WW_pf rfl (rl_g hr hf5 rfl) hr.2.1 (PE_lI rfl) (SQ_n ?_))
  rw [MR_z h5]
  refine WW_se (WW_pf rfl (rl_g hr hf5 rfl) hr.2.1 (PE_lI rfl) (SQ_n ?_))
  rw [MR_z h5]
  refine WW_se (WW_pf rfl (rl_g hr hf5 rfl) hr.2.1 (PE_lI rfl) (SQ_n ?_))
  rw [MR_z h5]
  refine WW_pf rfl (rl_g hr hf5 rfl) hr.2.1 (PE_lI rfl) (SQ_n (WW_rtV ⟨_, rfl, rfl, ?_⟩))
  rw [MR_z h5]
  exact hq X5 _ hf5 h6 fun _ => rfl
/-- a line's beginning that went well -/
theorem bgS_k {G : oV} {a b : Int} (h : (bgS t N G s a b).1 = 0) : s.1 = 0 ∧ a ≠ b ∧ G 0 0 ≠ 0 ∧ bgS t N G s a b = (0, nxF t N s.2) := by
  unfold bgS at h ⊢
  dsimp only at h ⊢
  by_cases hab : a = b
  · exfalso
    rw [if_pos hab, gOn_1] at h
    by_cases z : G 0 0 = 0
    · rw [if_pos z] at h; exact flw_1 (by decide) h
    · rw [if_neg z] at h; exact flw_1 (by decide) h
  · rw [if_neg hab] at h ⊢
    by_cases z : G 0 0 = 0
    · rw [if_pos z, gOn_1] at h
      exact absurd h (flw_1 (by decide))
    · rw [if_neg z] at h ⊢
      rw [gOn_1] at h
      refine ⟨h, hab, z, ?_⟩
      unfold gOn
      rw [if_pos h]
theorem rdS_k {lo hi : Int} (h : (rdS t N s lo hi).1 = 0) : s.1 = 0 ∧ kdF t N s.2 = 3 ∧ (lo ≤ vlF t N s.2 ∧ vlF t N s.2 ≤ hi) ∧ rdS t N s lo hi = (0, nxF t N s.2) ∧ bnV t N s lo hi = vlF t N s.2 := by
  unfold rdS at h ⊢
  rw [gOn_1] at h
  obtain ⟨e, h1, h2, h3⟩ := bnS_k h
  refine ⟨h1, h2, h3, ?_, ?_⟩
  · rw [e]
    unfold gOn
    rw [if_pos h1]
  · unfold bnV
    rw [if_pos h]
theorem nds_k {w : Int} (h : (nds t N s w).1 = 0) : (s.1 = 0 ∧ kdF t N s.2 = 2 ∧ wdF t N s.2 = w) ∧ nds t N s w = (0, nxF t N s.2) := by
  unfold nds at h ⊢
  rw [gOn_1] at h
  by_cases hw : isW t N s w = true
  · rw [if_pos hw]
    have := isW_k hw
    refine ⟨this, ?_⟩
    unfold gOn
    rw [if_pos this.1]
  · rw [if_neg hw] at h
    exact absurd h (flw_1 (by decide))
theorem ndC_k (h : (ndC t N s).1 = 0) : (s.1 = 0 ∧ kdF t N s.2 = 5) ∧ ndC t N s = (0, nxF t N s.2) := by
  unfold ndC at h ⊢
  rw [gOn_1] at h
  by_cases hw : s.1 = 0 ∧ kdF t N s.2 = 5
  · rw [if_pos hw]
    refine ⟨hw, ?_⟩
    unfold gOn
    rw [if_pos hw.1]
  · rw [if_neg hw] at h
    exact absurd h (flw_1 (by decide))
theorem knS_k {G : oV} (h : (knS t N G s).1 = 0) : nameB t N s = true ∧ fdF G (wdF t N s.2) ≠ -1 ∧ knS t N G s = s ∧ knV t N G s = fdF G (wdF t N s.2) := by
  have h0 := h
  unfold knS at h ⊢
  dsimp only at h ⊢
  by_cases hb : nameB t N s = true
  · rw [if_pos hb] at h ⊢
    by_cases hf : s.1 = 0 ∧ fdF G (wdF t N s.2) = -1
    · rw [if_pos hf] at h
      exact absurd h (flw_1 (by decide))
    · rw [if_neg hf]
      refine ⟨hb, fun q => hf ⟨(nameB_k hb).1, q⟩, rfl, ?_⟩
      unfold knV
      rw [if_pos h0]
  · rw [if_neg hb] at h
    exfalso
    by_cases hf : (flw t N s 1).1 = 0 ∧ fdF G (wdF t N (flw t N s 1).2) = -1
    · exact flw_1 (by decide) hf.1
    · rw [if_neg hf] at h
      exact flw_1 (by decide) h
theorem cc_200 (hr : RD c V r) (ht : TX t N (V 305 5)) (hg : GQ (V r)) (hs : RS t N (V 305) s) (hk : s.1 = 0 → kdF t N s.2 = 2) (hq : ∀ X Z, FrT (V 305) X → RS t N X (mE t N (V r) s) → ((mE t N (V r) s).1 = 0 → Z = mZ t N (V r) s) → R none c (MR V r X Z)) : CC 11 200 [vR (some 305)] c V R := by
  have h5 := hr.2.2
  obtain ⟨g0, g1, -, -, g5, -⟩ := id hg
  refine CC_of mt_200 gb_200 (by decide) (by decide) (rcb_o k_305) (Nat.le_of_ble_eq_true rfl) fun n dd hn hd => ?_
  show WW (bX13_readMove (gOr n dd)) n [some (vR (some (305))), none, none, none] _ _ _
  unfold bX13_readMove
  have hn0 : 1000000000 ≤ n := hn
  refine WW_eq (MR_id h5).symm ?_
  have pd : ∀ {L : gLo} {X : oV}, FrT (V 305) X → L[0]? = some (some (vR (some 305))) → PE (o2 zSub (fI 12 0 (fR 13 4 (lR 0))) (kI 1)) L c (MR V r X (V r)) (V r 0 0 - 1) := fun {L X} hf hl => by
    have := PE_o2 (f := zSub) (rl_G (Z := V r) (k := 0) hr hf hl rfl) (PE_kI (z := 1))
    rwa [zSub_id (by omega) (by omega)] at this
  have pp : ∀ {L : gLo} {X : oV}, FrT (V 305) X → L[0]? = some (some (vR (some 305))) → PE (o2 zSub (fI 12 1 (fR 13 4 (lR 0))) (kI 1)) L c (MR V r X (V r)) (V r 1 0 - 1) := fun {L X} hf hl => by
    have := PE_o2 (f := zSub) (rl_G (Z := V r) (k := 1) hr hf hl rfl) (PE_kI (z := 1))
    rwa [zSub_id (by omega) (by omega)] at this
  refine WW_se (WW_se (rl_193 (b := 10) hr ht hn (by omega) rfl (rl_G hr FrT.rf rfl rfl) FrT.rf hs (fun q => by have := hk q; omega) fun X1 hf1 h1 => SQ_n ?_))
  refine WW_se (rl_190 (s := mA t N (V r) s) ht hn (by omega) rfl PE_kI (pd hf1 rfl) hf1 h1 fun X2 hf2 h2 => SQ_n ?_)
  refine WW_se (rl_190 (s := mB t N (V r) s) ht hn (by omega) rfl PE_kI (pp hf2 rfl) hf2 h2 fun X3 hf3 h3 => SQ_n ?_)
  refine WW_se (rl_188 (s := mC t N (V r) s) ht hn (by omega) rfl hf3 h3 fun X4 hf4 h4 => SQ_n ?_)
  refine WW_se (rl_189 (s := mD2 t N (V r) s) hn (by omega) rfl PE_kI (pp hf4 rfl) hf4 h4 fun X5 hf5 h5' => SQ_n ?_)
  obtain ⟨v1, hv1⟩ : ∃ v1, v1 = bnV t N (mA t N (V r) s) 0 (V r 0 0 - 1) := ⟨_, rfl⟩
  obtain ⟨v2, hv2⟩ : ∃ v2, v2 = bnV t N (mB t N (V r) s) 0 (V r 1 0 - 1) := ⟨_, rfl⟩
  obtain ⟨v3, hv3⟩ : ∃ v3, v3 = bnV t N (mD2 t N (V r) s) 0 (V r 1 0 - 1) := ⟨_, rfl⟩
  obtain ⟨b, hb⟩ : ∃ b, b = bnS t N (mD2 t N (V r) s) 0 (V r 1 0 - 1) := ⟨_, rfl⟩
  rw [← hb] at h5'
  rw [← hv1, ← hv2, ← hv3]
  have em : mE t N (V r) s = gOn t N (if b.1 = 0 ∧ v2 = v3 then flw t N b 3 else b) := by
    unfold mE
    rw [← hb, ← hv2, ← hv3]
  refine WW_se (rl_if (by decide) (PE_and (rl_no rfl h5') (fun _ => PE_cm (op := .eq) (PE_lI rfl) (PE_lI rfl))) hn (by omega) rfl hf5 h5' fun X hf h1 => SQ_n ?_)
  have eif : (if (decide (b.1 = 0) && cmB ClassFile.Cond.eq v2 v3) = true then flw t N b 3 else b) = if b.1 = 0 ∧ v2 = v3 then flw t N b 3 else b := by simp [cmB]
  rw [eif] at h1
  refine WW_se (rl_183 hr ht hn (by omega) rfl hf h1 (fun q => ?_) fun X6 hf6 h6 => SQ_n ?_)
  · by_cases h0 : b.1 = 0 ∧ v2 = v3
    · rw [if_pos h0] at q; exact absurd q (flw_1 (by decide))
    · rw [if_neg h0] at q ⊢
      rw [hb] at q ⊢
      obtain ⟨e, -, k3, -⟩ := bnS_k q
      rw [e]
      omega
  rw [← em] at h6
  refine WW_se (WW_if (rl_ov rfl h6) (fun hb => WW_rtV (SQ_s (SQ_s ⟨_, rfl, rfl, hq X6 (V r) hf6 h6 fun q => absurd q (of_decide_eq_true hb)⟩))) (fun hbo => WW_sk (SQ_n ?_)))
  have hon : (mE t N (V r) s).1 = 0 := Classical.not_not.mp (of_decide_eq_false hbo)
  have h10 : V r 5 0 < 10 := by
    have f5 : b.1 = 0 := by
      rw [em, gOn_1] at hon
      by_cases h0 : b.1 = 0 ∧ v2 = v3
      · exact h0.1
      · rw [if_neg h0] at hon; exact hon
    rw [hb] at f5
    have f4 := (ndC_k (bnS_k f5).2.1).1.1
    have f3 := (rdS_k f4).1
    have f2 := (rdS_k f3).1
    have := (bgS_k f2).2.1
    omega
  have g5' : 0 ≤ V r 5 0 := g5.1
  refine WW_se (WW_asF (ty := 0) (z := v1) rfl (by decide) (rl_g hr hf6 rfl) hr.2.1 (rl_G hr hf6 rfl rfl) g5' h10 (PE_lI rfl) rfl (SQ_n ?_))
  rw [MR_z h5, MR_r h5]
  have q1 := rl_G (Z := sF (V r) 19 (gUz (V r 19) (V r 5 0) v1)) (k := 5) (L := [some (vR (some 305)), some (vI v1), some (vI v2), some (vI v3)]) hr hf6 rfl rfl
  rw [sF_ne (by decide)] at q1
  refine WW_se (WW_asF (ty := 0) (z := v2) rfl (by decide) (rl_g hr hf6 rfl) hr.2.1 q1 g5' h10 (PE_lI rfl) rfl (SQ_n ?_))
  rw [MR_z h5, MR_r h5, sF_ne (show (20 : Nat) ≠ 19 by decide)]
  have q2 := rl_G (Z := sF (sF (V r) 19 (gUz (V r 19) (V r 5 0) v1)) 20 (gUz (V r 20) (V r 5 0) v2)) (k := 5) (L := [some (vR (some 305)), some (vI v1), some (vI v2), some (vI v3)]) hr hf6 rfl rfl
  rw [sF_ne (by decide), sF_ne (by decide)] at q2
  refine WW_se (WW_asF (ty := 0) (z := v3) rfl (by decide) (rl_g hr hf6 rfl) hr.2.1 q2 g5' h10 (PE_lI rfl) rfl (SQ_n ?_))
  rw [MR_z h5, MR_r h5, sF_ne (show (21 : Nat) ≠ 20 by decide), sF_ne (show (21 : Nat) ≠ 19 by decide)]
  refine WW_pu rfl (rl_g hr hf6 rfl) hr.2.1 PE_kI (SQ_n (WW_rtV ⟨_, rfl, rfl, ?_⟩))
  rw [MR_z h5, MR_r h5, sF_ne (show (5 : Nat) ≠ 21 by decide), sF_ne (show (5 : Nat) ≠ 20 by decide), sF_ne (show (5 : Nat) ≠ 19 by decide), zAdd_id (by omega) (by omega)]
  refine hq X6 _ hf6 h6 fun _ => ?_
  unfold mZ
  rw [← hv1, ← hv2, ← hv3]
theorem cc_202 (hr : RD c V r) (ht : TX t N (V 305 5)) (hg : GQ (V r)) (hs : RS t N (V 305) s) (hk : s.1 = 0 → kdF t N s.2 = 2) (hq : ∀ X Z, FrT (V 305) X → RS t N X (yD t N (V r) s) → ((yD t N (V r) s).1 = 0 → Z = yZ t N (V r) s) → R none c (MR V r X Z)) : CC 12 202 [vR (some 305)] c V R := by
  have h5 := hr.2.2
  obtain ⟨g0, g1, -, g4, -, -, g7, -⟩ := id hg
  refine CC_of mt_202 gb_202 (by decide) (by decide) (rcb_o k_305) (Nat.le_of_ble_eq_true rfl) fun n dd hn hd => ?_
  show WW (bX13_readSays (gOr n dd)) n [some (vR (some (305))), none, none, none] _ _ _
  unfold bX13_readSays
  have hn0 : 1000000000 ≤ n := hn
  refine WW_eq (MR_id h5).symm ?_
  have pd : ∀ {L : gLo} {X : oV}, FrT (V 305) X → L[0]? = some (some (vR (some 305))) → PE (o2 zSub (fI 12 0 (fR 13 4 (lR 0))) (kI 1)) L c (MR V r X (V r)) (V r 0 0 - 1) := fun {L X} hf hl => by
    have := PE_o2 (f := zSub) (rl_G (Z := V r) (k := 0) hr hf hl rfl) (PE_kI (z := 1))
    rwa [zSub_id (by omega) (by omega)] at this
  have pp : ∀ {L : gLo} {X : oV}, FrT (V 305) X → L[0]? = some (some (vR (some 305))) → PE (o2 zSub (fI 12 1 (fR 13 4 (lR 0))) (kI 1)) L c (MR V r X (V r)) (V r 1 0 - 1) := fun {L X} hf hl => by
    have := PE_o2 (f := zSub) (rl_G (Z := V r) (k := 1) hr hf hl rfl) (PE_kI (z := 1))
    rwa [zSub_id (by omega) (by omega)] at this
  refine WW_se (WW_se (rl_193 (b := 8) hr ht hn (by omega) rfl (rl_G hr FrT.rf rfl rfl) FrT.rf hs (fun q => by have := hk q; omega) fun X1 hf1 h1 => SQ_n ?_))
  refine WW_se (rl_194 (s := yA t N (V r) s) hr hn (by omega) rfl g4.1 g4.2 hf1 h1 fun X2 hf2 h2 => SQ_n ?_)
  refine WW_se (rl_183 hr ht hn (by omega) rfl hf2 h2 (fun q => ?_) fun X3 hf3 h3 => SQ_n ?_)
  · obtain ⟨k1, -, k3, -⟩ := knS_k q
    rw [k3]
    have := (nameB_k k1).2
    omega
  refine WW_se (rl_190 (s := yB t N (V r) s) ht hn (by omega) rfl PE_kI (pd hf3 rfl) hf3 h3 fun X4 hf4 h4 => SQ_n ?_)
  refine WW_se (rl_190 (s := yC t N (V r) s) ht hn (by omega) rfl PE_kI (pp hf4 rfl) hf4 h4 fun X6 hf6 h6 => SQ_n ?_)
  have h6 : RS t N X6 (yD t N (V r) s) := h6
  obtain ⟨v1, hv1⟩ : ∃ v1, v1 = knV t N (V r) (yA t N (V r) s) := ⟨_, rfl⟩
  obtain ⟨v2, hv2⟩ : ∃ v2, v2 = bnV t N (yB t N (V r) s) 0 (V r 0 0 - 1) := ⟨_, rfl⟩
  obtain ⟨v3, hv3⟩ : ∃ v3, v3 = bnV t N (yC t N (V r) s) 0 (V r 1 0 - 1) := ⟨_, rfl⟩
  rw [← hv1, ← hv2, ← hv3]
  refine WW_se (WW_if (rl_ov rfl h6) (fun hb => WW_rtV (SQ_s (SQ_s ⟨_, rfl, rfl, hq X6 (V r) hf6 h6 fun q => absurd q (of_decide_eq_true hb)⟩))) (fun hbo => WW_sk (SQ_n ?_)))
  have hon : (yD t N (V r) s).1 = 0 := Classical.not_not.mp (of_decide_eq_false hbo)
  have h10 : V r 7 0 < 8 := by
    have f3 := (rdS_k (rdS_k hon).1).1
    have f2 : (knS t N (V r) (yA t N (V r) s)).1 = 0 := by
      unfold yB at f3
      rw [gOn_1] at f3
      exact f3
    have f1 := (nameB_k (knS_k f2).1).1
    have := (bgS_k f1).2.1
    omega
  have g5' : 0 ≤ V r 7 0 := g7.1
  refine WW_se (WW_asF (ty := 0) (z := v1) rfl (by decide) (rl_g hr hf6 rfl) hr.2.1 (rl_G hr hf6 rfl rfl) g5' h10 (PE_lI rfl) rfl (SQ_n ?_))
  rw [MR_z h5, MR_r h5]
  have q1 := rl_G (Z := sF (V r) 24 (gUz (V r 24) (V r 7 0) v1)) (k := 7) (L := [some (vR (some 305)), some (vI v1), some (vI v2), some (vI v3)]) hr hf6 rfl rfl
  rw [sF_ne (by decide)] at q1
  refine WW_se (WW_asF (ty := 0) (z := v2) rfl (by decide) (rl_g hr hf6 rfl) hr.2.1 q1 g5' h10 (PE_lI rfl) rfl (SQ_n ?_))
  rw [MR_z h5, MR_r h5, sF_ne (show (25 : Nat) ≠ 24 by decide)]
  have q2 := rl_G (Z := sF (sF (V r) 24 (gUz (V r 24) (V r 7 0) v1)) 25 (gUz (V r 25) (V r 7 0) v2)) (k := 7) (L := [some (vR (some 305)), some (vI v1), some (vI v2), some (vI v3)]) hr hf6 rfl rfl
  rw [sF_ne (by decide), sF_ne (by decide)] at q2
  refine WW_se (WW_asF (ty := 0) (z := v3) rfl (by decide) (rl_g hr hf6 rfl) hr.2.1 q2 g5' h10 (PE_lI rfl) rfl (SQ_n ?_))
  rw [MR_z h5, MR_r h5, sF_ne (show (26 : Nat) ≠ 25 by decide), sF_ne (show (26 : Nat) ≠ 24 by decide)]
  refine WW_pu rfl (rl_g hr hf6 rfl) hr.2.1 PE_kI (SQ_n (WW_rtV ⟨_, rfl, rfl, ?_⟩))
  rw [MR_z h5, MR_r h5, sF_ne (show (7 : Nat) ≠ 26 by decide), sF_ne (show (7 : Nat) ≠ 25 by decide), sF_ne (show (7 : Nat) ≠ 24 by decide), zAdd_id (by omega) (by omega)]
  refine hq X6 _ hf6 h6 fun _ => ?_
  unfold yZ
  rw [← hv1, ← hv2, ← hv3]
theorem fd_b {G : oV} {w : Int} (h0 : 0 ≤ G 4 0) : fdF G w = -1 ∨ (0 ≤ fdF G w ∧ fdF G w < G 4 0 ∧ G 8 (fdF G w) = w) := by
  unfold fdF
  rcases fst1_spec (fun k => decide (G 8 k = w)) (-1) (G 4 0).toNat 0 with ⟨k, k0, k1, k2, k3, -⟩ | ⟨k0, -⟩
  · rw [k2]
    exact Or.inr ⟨k0, by omega, of_decide_eq_true k3⟩
  · rw [k0]
    exact Or.inl rfl
theorem cc_199 (hr : RD c V r) (ht : TX t N (V 305 5)) (hg : GQ (V r)) (hs : RS t N (V 305) s) (hk : s.1 = 0 → kdF t N s.2 = 2) (hq : ∀ X Z, FrT (V 305) X → RS t N X (aE t N (V r) s) → ((aE t N (V r) s).1 = 0 → Z = aZ t N (V r) s) → R none c (MR V r X Z)) : CC 12 199 [vR (some 305)] c V R := by
  have h5 := hr.2.2
  obtain ⟨g0, g1, -, g4, -, -, g7, g15, g17⟩ := id hg
  have hp7 : 0 ≤ aP t N (V r) s ∧ aP t N (V r) s < 7 := by
    unfold aP knV
    have := fd_b (G := V r) (w := wdF t N (aA t N (V r) s).2) g4.1
    split
    · rename_i hh
      have := (knS_k hh).2.1
      omega
    · omega
  have b15 := g15 _ hp7.1 hp7.2
  refine CC_of mt_199 gb_199 (by decide) (by decide) (rcb_o k_305) (Nat.le_of_ble_eq_true rfl) fun n dd hn hd => ?_
  show WW (bX13_readStay (gOr n dd)) n [some (vR (some (305))), none, none, none, none] _ _ _
  unfold bX13_readStay
  have hn0 : 1000000000 ≤ n := hn
  refine WW_eq (MR_id h5).symm ?_
  have pd : ∀ {L : gLo} {X : oV}, FrT (V 305) X → L[0]? = some (some (vR (some 305))) → PE (o2 zSub (fI 12 0 (fR 13 4 (lR 0))) (kI 1)) L c (MR V r X (V r)) (V r 0 0 - 1) := fun {L X} hf hl => by
    have := PE_o2 (f := zSub) (rl_G (Z := V r) (k := 0) hr hf hl rfl) (PE_kI (z := 1))
    rwa [zSub_id (by omega) (by omega)] at this
  refine WW_se (WW_se (rl_193 (b := 1) hr ht hn (by omega) rfl PE_kI FrT.rf hs (fun q => by have := hk q; omega) fun X1 hf1 h1 => SQ_n ?_))
  refine WW_se (rl_194 (s := aA t N (V r) s) hr hn (by omega) rfl g4.1 g4.2 hf1 h1 fun X2 hf2 h2 => SQ_n ?_)
  obtain ⟨p, hp⟩ : ∃ p, p = aP t N (V r) s := ⟨_, rfl⟩
  have hp' : knV t N (V r) (aA t N (V r) s) = p := hp.symm
  rw [hp']
  rw [← hp] at hp7 b15
  obtain ⟨b, hb⟩ : ∃ b, b = knS t N (V r) (aA t N (V r) s) := ⟨_, rfl⟩
  rw [← hb] at h2
  have eB : aBk t N (V r) s = gOn t N (if b.1 = 0 ∧ V r 15 p = 3 then flw t N b 5 else b) := by
    unfold aBk
    rw [← hb, ← hp]
  have p15 : ∀ {L : gLo} {X : oV}, FrT (V 305) X → L[0]? = some (some (vR (some 305))) → L[1]? = some (some (vI p)) → PE (aI 0 (fR 12 15 (fR 13 4 (lR 0))) (lI 1)) L c (MR V r X (V r)) (V r 15 p) := fun hf hl hl1 => rl_A hr hf hl rfl (by decide) (PE_lI hl1) hp7.1 (by omega)
  refine WW_se (rl_if (by decide) (PE_and (rl_no rfl h2) (fun _ => PE_cm (op := .eq) (p15 hf2 rfl rfl) PE_kI)) hn (by omega) rfl hf2 h2 fun X3 hf3 h3 => SQ_n ?_)
  have eif : (if (decide (b.1 = 0) && cmB ClassFile.Cond.eq (V r 15 p) 3) = true then flw t N b 5 else b) = if b.1 = 0 ∧ V r 15 p = 3 then flw t N b 5 else b := by simp [cmB]
  rw [eif] at h3
  refine WW_se (rl_183 hr ht hn (by omega) rfl hf3 h3 (fun q => ?_) fun X4 hf4 h4 => SQ_n ?_)
  · by_cases h0 : b.1 = 0 ∧ V r 15 p = 3
    · rw [if_pos h0] at q; exact absurd q (flw_1 (by decide))
    · rw [if_neg h0] at q ⊢
      rw [hb] at q ⊢
      obtain ⟨k1, -, k3, -⟩ := knS_k q
      rw [k3]
      have := (nameB_k k1).2
      omega
  rw [← eB] at h4
  -- the least first day
  have elo : (if (decide (¬ (aBk t N (V r) s).1 = 0) || cmB ClassFile.Cond.eq (V r 15 p) 0) = true then 0 else zAdd (V r 17 (zSub (zAdd (zMul 3 p) (V r 15 p)) 1)) 1) = aLo t N (V r) s := by
    unfold aLo
    rw [← hp]
    by_cases h0 : ¬ (aBk t N (V r) s).1 = 0 ∨ V r 15 p = 0
    · rw [if_pos h0, if_pos (by rcases h0 with h0 | h0 <;> simp [cmB, h0])]
    · rw [if_neg h0, if_neg (by
        intro q
        rw [Bool.or_eq_true] at q
        rcases q with q | q
        · exact h0 (Or.inl (of_decide_eq_true q))
        · exact h0 (Or.inr (of_decide_eq_true q)))]
      have ei : zSub (zAdd (zMul 3 p) (V r 15 p)) 1 = 3 * p + V r 15 p - 1 := by rw [zMul_id (by omega) (by omega), zAdd_id (by omega) (by omega), zSub_id (by omega) (by omega)]
      rw [ei]
      have := g17 (3 * p + V r 15 p - 1) (by omega) (by omega)
      rw [zAdd_id (by omega) (by omega)]
  have plo : ∀ {L : gLo}, L[0]? = some (some (vR (some 305))) → L[1]? = some (some (vI p)) → PE (gIte (orC (cmC .eq (fI 13 9 (lR 0)) (kI 5)) (czC .eq (aI 0 (fR 12 15 (fR 13 4 (lR 0))) (lI 1)))) (kI 0) (o2 zAdd (aI 0 (fR 12 17 (fR 13 4 (lR 0))) (o2 zSub (o2 zAdd (o2 zMul (kI 3) (lI 1)) (aI 0 (fR 12 15 (fR 13 4 (lR 0))) (lI 1))) (kI 1))) (kI 1))) L c (MR V r X4 (V r)) (aLo t N (V r) s) := fun {L} hl hl1 => by
    rw [← elo]
    refine PE_ite (PE_or (rl_ov hl h4) (fun _ => PE_cz (p15 hf4 hl hl1))) (fun _ => PE_kI) (fun hb0 => PE_o2 (rl_A hr hf4 hl rfl (by decide) (PE_o2 (PE_o2 (PE_o2 PE_kI (PE_lI hl1)) (p15 hf4 hl hl1)) PE_kI) ?_ ?_) PE_kI)
    all_goals
      rw [Bool.or_eq_false_iff] at hb0
      have hz : ¬ V r 15 p = 0 := of_decide_eq_false hb0.2
      rw [zMul_id (by omega) (by omega), zAdd_id (by omega) (by omega), zSub_id (by omega) (by omega)]
      omega
  refine WW_se (WW_st (plo rfl rfl) (SQ_n ?_))
  refine WW_se (rl_190 (s := aBk t N (V r) s) ht hn (by omega) rfl (PE_lI rfl) (pd hf4 rfl) hf4 h4 fun X5 hf5 h5' => SQ_n ?_)
  refine WW_se (rl_187 (s := aC t N (V r) s) (by decide) ht hn (by omega) rfl hf5 h5' fun X6 hf6 h6 => SQ_n ?_)
  refine WW_se (rl_190 (s := aD t N (V r) s) ht hn (by omega) rfl (PE_lI rfl) (pd hf6 rfl) hf6 h6 fun X7 hf7 h7 => SQ_n ?_)
  have h7 : RS t N X7 (aE t N (V r) s) := h7
  obtain ⟨v2, hv2⟩ : ∃ v2, v2 = aLo t N (V r) s := ⟨_, rfl⟩
  obtain ⟨v3, hv3⟩ : ∃ v3, v3 = aF t N (V r) s := ⟨_, rfl⟩
  obtain ⟨v4, hv4⟩ : ∃ v4, v4 = aT t N (V r) s := ⟨_, rfl⟩
  have e3 : bnV t N (aBk t N (V r) s) (aLo t N (V r) s) (V r 0 0 - 1) = v3 := hv3.symm
  rw [e3]
  have e4 : bnV t N (aD t N (V r) s) v3 (V r 0 0 - 1) = v4 := by rw [hv3]; exact hv4.symm
  rw [e4, ← hv2]
  refine WW_se (WW_if (rl_ov rfl h7) (fun hb => WW_rtV (SQ_s (SQ_s ⟨_, rfl, rfl, hq X7 (V r) hf7 h7 fun q => absurd q (of_decide_eq_true hb)⟩))) (fun hbo => WW_sk (SQ_n ?_)))
  have hon : (aE t N (V r) s).1 = 0 := Classical.not_not.mp (of_decide_eq_false hbo)
  have h3' : V r 15 p < 3 := by
    have f3 := (rdS_k (nds_k (rdS_k hon).1).1.1).1
    rw [eB, gOn_1] at f3
    by_cases h0 : b.1 = 0 ∧ V r 15 p = 3
    · rw [if_pos h0] at f3
      exact absurd f3 (flw_1 (by decide))
    · rw [if_neg h0] at f3
      have : ¬ V r 15 p = 3 := fun q => h0 ⟨f3, q⟩
      omega
  have ei : zAdd (zMul 3 p) (V r 15 p) = 3 * p + V r 15 p := by rw [zMul_id (by omega) (by omega), zAdd_id (by omega) (by omega)]
  refine WW_se (WW_asF (ty := 0) (x := 3 * p + V r 15 p) (z := v3) rfl (by decide) (rl_g hr hf7 rfl) hr.2.1 (by
    have := PE_o2 (f := zAdd) (PE_o2 (f := zMul) (PE_kI (z := 3)) (PE_lI (i := 1) rfl)) (p15 (L := [some (vR (some 305)), some (vI p), some (vI v2), some (vI v3), some (vI v4)]) hf7 rfl rfl)
    rw [ei] at this
    exact this) (by omega) (by omega) (PE_lI rfl) rfl (SQ_n ?_))
  rw [MR_z h5, MR_r h5]
  have q15 : ∀ {Z : oV}, Z 15 = V r 15 → PE (aI 0 (fR 12 15 (fR 13 4 (lR 0))) (lI 1)) [some (vR (some 305)), some (vI p), some (vI v2), some (vI v3), some (vI v4)] c (MR V r X7 Z) (V r 15 p) := fun {Z} hz => by
    have := rl_A (V := V) (Z := Z) (k := 15) (ty := 0) (L := [some (vR (some 305)), some (vI p), some (vI v2), some (vI v3), some (vI v4)]) hr hf7 rfl rfl (by decide) (PE_lI (i := 1) rfl) hp7.1 (by show p < 7; omega)
    rwa [hz] at this
  refine WW_se (WW_asF (ty := 0) (x := 3 * p + V r 15 p) (z := v4) rfl (by decide) (rl_g hr hf7 rfl) hr.2.1 (by
    have := PE_o2 (f := zAdd) (PE_o2 (f := zMul) (PE_kI (z := 3)) (PE_lI (i := 1) rfl)) (q15 (Z := sF (V r) 16 (gUz (V r 16) (3 * p + V r 15 p) v3)) (by rw [sF_ne (by decide)]))
    rw [ei] at this
    exact this) (by omega) (by omega) (PE_lI rfl) rfl (SQ_n ?_))
  rw [MR_z h5, MR_r h5, sF_ne (show (17 : Nat) ≠ 16 by decide)]
  refine WW_au0 rfl (rl_g hr hf7 rfl) hr.2.1 (PE_lI rfl) hp7.1 (by omega) PE_kI (SQ_n (WW_rtV ⟨_, rfl, rfl, ?_⟩))
  rw [MR_z h5, MR_r h5, sF_ne (show (15 : Nat) ≠ 17 by decide), sF_ne (show (15 : Nat) ≠ 16 by decide), zAdd_id (by omega) (by omega)]
  refine hq X7 _ hf7 h7 fun _ => ?_
  unfold aZ
  rw [← hv3, ← hv4, ← hp]
end RM
