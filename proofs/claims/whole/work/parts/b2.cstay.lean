/-! THE CLASS'S READER: stay -/
section CST
variable {c : cT} {V : Mem} {g n n' dd : Nat} {G : oV} {L : gLo} {Q : gEx → gLo → cT → Mem → Prop} {R : Option gAV → cT → Mem → Prop} {t : Int → Int} {N q : Int}
/-- word(i) and whole(.., ..), or false; the bounds as they are behind the word -/
theorem cl_wg {i : Nat} {e1 e2 : gIE} {lo hi : Int} (hi' : i < 51) (h1 : ∀ X, FK (V 84) X → PE e1 L c (sO V 84 X) lo) (h2 : ∀ X, FK (V 84) X → PE e2 L c (sO V 84 X) hi) (hn : nB ≤ n') (hd : 7 ≤ dd) (hl : L[0]? = some (some (vR (some 84)))) (ht : TX t N (V 0 0)) (hc : CT t N (V 84) q)
    (hq0 : ∀ X, FK (V 84) X → CS t N X (rdS t N (nds t N (0, q) (wK i)) lo hi) → (rdS t N (nds t N (0, q) (wK i)) lo hi).1 ≠ 0 → Q (some (3, some (vB false))) L c (sO V 84 X))
    (hq1 : ∀ X, FK (V 84) X → CT t N X (rdS t N (nds t N (0, q) (wK i)) lo hi).2 → (rdS t N (nds t N (0, q) (wK i)) lo hi).1 = 0 → X 6 0 = bnV t N (nds t N (0, q) (wK i)) lo hi → Q none L c (sO V 84 X)) :
    WW (ifS (orC (notC (cB (gOr n' dd) 66 (aCR (lR 0) (aCS (kS i) (a0))))) (notC (cB (gOr n' dd) 67 (aCR (lR 0) (aCI e1 (aCI e2 (a0))))))) (rtB (kB false)) skS) n L c V Q := by
  refine WW_ifE (EE_or (EE_not (EE_cB (PE_aCR (PE_lR hl) (PE_aCS PE_kS PE_a0)) hn (cc_66 hi' ht hc fun X hf hX => ⟨_, rfl, fun hb => ?_, fun hb => ?_⟩) hd)))
  · have h1 : (nds t N (0, q) (wK i)).1 ≠ 0 := by simpa using hb
    refine ⟨fun _ => WW_rtB PE_kB (hq0 X hf ?_ ?_), fun z => by cases z⟩
    · rw [rd_ov h1]; exact hX
    · rw [rd_ov h1]; exact h1
  · have h3 : (nds t N (0, q) (wK i)).1 = 0 := by simpa using hb
    have e : nds t N (0, q) (wK i) = (0, (nds t N (0, q) (wK i)).2) := Prod.ext h3 rfl
    rw [e] at hq0 hq1
    refine EE_not (EE_cB (PE_aCR (PE_lR hl) (PE_aCI (h1 X hf) (PE_aCI (h2 X hf) PE_a0))) hn (cc_67 (t := t) (N := N) (q := (nds t N (0, q) (wK i)).2) (by rw [sO_ne (by decide)]; exact ht) (by rw [sO_at]; exact hX.1 h3) fun X2 hf2 hX2 h6 => ⟨_, rfl, fun hb2 => ?_, fun hb2 => ?_⟩) (by omega))
    · have h2 : (rdS t N (0, (nds t N (0, q) (wK i)).2) lo hi).1 ≠ 0 := by simpa using hb2
      rw [sO_sO]
      rw [sO_at] at hf2
      exact WW_rtB PE_kB (hq0 X2 (hf.tr hf2) hX2 h2)
    · have h2 : (rdS t N (0, (nds t N (0, q) (wK i)).2) lo hi).1 = 0 := by simpa using hb2
      rw [sO_sO]
      rw [sO_at] at hf2
      exact WW_sk (hq1 X2 (hf.tr hf2) (hX2.1 h2) h2 (by rw [h6 h2]; exact (rdS_k h2).2.2.2.2.symm))
/-- one more stay: who is here, comes, goes -/
theorem here_a {p f l d st : Int} {Z : oV} (hst : G 15 p = st) (st0 : 0 ≤ st) (z15 : Z 15 p = st + 1) (z16 : Z 16 = gUz (G 16) (3 * p + st) f) (z17 : Z 17 = gUz (G 17) (3 * p + st) l) : hereB Z p d = (hereB G p d || (decide (f ≤ d) && decide (d ≤ l))) ∧ comesB Z p d = (comesB G p d || decide (f = d)) ∧ goesB Z p d = (goesB G p d || decide (l = d)) := by
  unfold hereB comesB goesB
  rw [z15, hst, anyB_s st0, anyB_s st0, anyB_s st0, z16, z17, gUz_at, gUz_at]
  refine ⟨?_, ?_, ?_⟩
  · rw [anyB_congr (Q := fun i => decide (G 16 (3 * p + i) ≤ d) && decide (d ≤ G 17 (3 * p + i))) (fun j j0 j1 => by rw [gUz_ne (by omega), gUz_ne (by omega)])]
  · rw [anyB_congr (Q := fun i => decide (G 16 (3 * p + i) = d)) (fun j j0 j1 => by rw [gUz_ne (by omega)])]
  · rw [anyB_congr (Q := fun i => decide (G 17 (3 * p + i) = d)) (fun j j0 j1 => by rw [gUz_ne (by omega)])]
theorem here_o {p p' f l d st : Int} {Z : oV} (hne : p' ≠ p) (b0 : 0 ≤ st ∧ st < 3) (b3 : G 15 p' ≤ 3) (z15 : Z 15 = gUz (G 15) p (st + 1)) (z16 : Z 16 = gUz (G 16) (3 * p + st) f) (z17 : Z 17 = gUz (G 17) (3 * p + st) l) : hereB Z p' d = hereB G p' d ∧ comesB Z p' d = comesB G p' d ∧ goesB Z p' d = goesB G p' d := by
  unfold hereB comesB goesB
  rw [z15, gUz_ne hne, z16, z17]
  refine ⟨?_, ?_, ?_⟩
  · exact anyB_congr fun j j0 j1 => by rw [gUz_ne (by omega), gUz_ne (by omega)]
  · exact anyB_congr fun j j0 j1 => by rw [gUz_ne (by omega)]
  · exact anyB_congr fun j j0 j1 => by rw [gUz_ne (by omega)]
end CST
