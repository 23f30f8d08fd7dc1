/-! EXPLAINS, EXPLAIN: the class; together -/
theorem zDiv_id {x y : Int} (hx : 0 ≤ x) (hx2 : x < 2147483648) (hy : 0 < y) : zDiv x y = x / y := by
  unfold zDiv wr
  rw [Int.tdiv_eq_ediv_of_nonneg hx]
  have h1 : 0 ≤ x / y := Int.ediv_nonneg hx (by omega)
  have h2 : x / y ≤ x := Int.ediv_le_self y hx
  exact Int.bmod_eq_of_le (by omega) (by omega)
theorem zRem_nn {x y : Int} (hx : 0 ≤ x) : zRem x y = x % y := by
  unfold zRem
  exact Int.tmod_eq_emod_of_nonneg hx
/-- the explanations that the class has are the reference's -/
theorem okX_v {G S : oV} {v : Int → Int} {x : Int} (hG : GW G) (hv : VE G v (nS S)) (hvv : VW G v) (hvs : VW G (S 18)) (hx : 0 ≤ x) (hx1 : x < 64 * G 0 0) : okX G v x = okX G (S 18) x := by
  have y1 := hG.2.1
  by_cases hc : x % 8 < G 1 0 ∧ x / 8 % 8 < x % 8
  · have e : 64 * (x / 64) + 8 * (x / 8 % 8) + x % 8 = x := by omega
    rw [← e, okX_at (by omega) hc.2 hc.1 y1.2, okX_at (by omega) hc.2 hc.1 y1.2]
    refine (okM_T (T := mS (S 18) (x / 64) (x / 8 % 8) (x % 8)) hG hvs ?_ hvv (Or.inr ⟨⟨by omega, by omega⟩, ⟨by omega, hc.1⟩, by omega⟩) mS_MTv)
    unfold VE kindF habitF nS mS at *
    simp [s1, sF] at hv ⊢
    exact hv
  · rw [okX_no hc, okX_no hc]
/-- behind a search -/
def XQ (V' V1 : Mem) (S G : oV) (t : Int) : Prop := (∀ a, a ≠ 0 → a ≠ 279 → a ≠ 280 → V1 a = V' a) ∧ (∀ k, k ≠ 15 → V1 0 k = V' 0 k) ∧ V1 0 15 0 = t ∧ CX V1 S G ∧ V1 279 3 0 = 1
section XK
variable {c : cT} {V : Mem} {g : Nat} {G S : oV} {R : Option gAV → cT → Mem → Prop}
theorem pc_31 {i w : Int} (hi : 0 ≤ i) (hi8 : i < 840) (h0 : 0 ≤ V 279 1 i) (h1 : V 279 1 i < 100000) : PC 1 31 [vR (some 279), vI i, vI w] c V (some (vI (prtF (V 279 1 i) w))) := by
  refine PC_of ?_
  refine CC_of mt_31 gb_31 (by decide) (by decide) (rcb_o k_279) (Nat.le_of_ble_eq_true rfl) fun n dd hn hd => ?_
  show WW (bX3_part (gOr n dd)) n [some (vR (some (279))), some (vI (i)), some (vI (w)), none] _ _ _
  unfold bX3_part
  have hn0 : 1000000000 ≤ n := hn
  refine WW_se (WW_st (PE_aF rfl (by decide) (PE_lR rfl) k_279 (PE_lI rfl) hi (by omega)) (SQ_n ?_))
  generalize V 279 1 i = x at *
  by_cases hw : w = 0
  · refine WW_se (WW_if (PE_cz (PE_lI rfl)) (fun _ => WW_rt (PE_o2p (PE_lI rfl) PE_kI (by decide)) (SQ_s ⟨_, rfl, rfl, ?_, rfl, rfl⟩)) (fun hb => absurd hw (of_decide_eq_false hb)))
    rw [zDiv_id h0 (by omega) (by omega)]
    unfold prtF
    rw [if_pos hw]
  · refine WW_se (WW_if (PE_cz (PE_lI rfl)) (fun hb => absurd (of_decide_eq_true hb) hw) (fun _ => WW_sk (SQ_n ?_)))
    refine WW_rt (PE_o2p (PE_ite (PE_cm (PE_lI rfl) PE_kI) (fun _ => PE_o2p (PE_lI rfl) PE_kI (by decide)) (fun _ => PE_lI rfl)) PE_kI (by decide)) ⟨_, rfl, rfl, ?_, rfl, rfl⟩
    unfold prtF
    rw [if_neg hw, zDiv_id h0 (by omega) (by omega)]
    by_cases hw1 : w = 1
    · have hb : cmB ClassFile.Cond.eq w 1 = true := decide_eq_true hw1
      rw [if_pos hw1, if_pos hb, zRem_nn (by omega)]
    · have hb : ¬ cmB ClassFile.Cond.eq w 1 = true := fun q => hw1 (of_decide_eq_true q)
      rw [if_neg hw1, if_neg hb, zRem_nn h0]
/-- what is searched of a wrong seeing -/
theorem wW_30 {V' : Mem} {t0 : Int} {n n' dd : Nat} {L : gLo} {Q : gEx → gLo → cT → Mem → Prop} (hn : nB ≤ n') (hd : 9 ≤ dd) (hl : L[0]? = some (some (vR (some 0)))) (hP : gP V g) (hT : TDY V S G g) (hcx : CX V S G) (hQ : TQ V V' t0) (hf : FD G S (V' 236) (V' 235)) (hw : ¬ fWd G (V' 236) (V' 235) = -2) (hq : ∀ V3, (∀ a, a ≠ 279 → a ≠ 280 → V3 a = V' a) → CX V3 S G → V3 279 3 0 = 1 → Q none L c V3) : WW (cV (gOr n' dd) 30 (aCR (fR 11 10 (lR 0)) (aCR (fR 11 2 (lR 0)) (aCR (fR 11 5 (lR 0)) (a0))))) n L c V' Q := by
  obtain ⟨u1', u2', u3', u4'⟩ := tq_all (c := c) hP hT.2.1 hQ hf
  obtain ⟨n1', n2', n3'⟩ := id u1'
  have hG := hT.2.1.1
  have hvv : VW G (S 18) := hT.2.1.2.2.2.1
  have h85 : V' 85 = V 85 := hQ.1 85 (by decide) (by decide) (by decide)
  have h79 : V' 279 = V 279 := hQ.1 279 (by decide) (by decide) (by decide)
  have hcx' : CX V' S G := CX_eq hcx h79 rfl
  refine WW_cV (PE_aCR (PE_fC rfl (PE_lR hl) k_0) (PE_aCR (PE_fP rfl (PE_lR hl) k_0 n1') (PE_aCR (PE_fC rfl (PE_lR hl) k_0) PE_a0))) hn (cc_30 (v := S 18) n2' (mcl_pe hP.1) u2' (WR_ext hT.2.1.2.2.1 h85) hG hvv ?_ ?_ (fun h1 => ⟨rfl, hq V' (fun _ _ _ => rfl) hcx' h1⟩) (fun h0 K X hx3 hxp => ⟨rfl, hq (MX2 V' K X) (fun a a1 a2 => MX_o a1 a2) (Or.inr ⟨by rw [MX_279]; exact hx3, S 18, VE_n, hvv, by rw [MX_279]; exact hxp⟩) (by rw [MX_279]; exact hx3)⟩)) hd
  · rw [fWd_eq hG (hf (mS (S 18) (-1) 0 0) hvv mS_VE rfl)]
    exact hw
  · rcases hcx' with q | q
    · exact Or.inl q
    · exact Or.inr q.1
theorem qc_122 (hP : gP V g) (h : 0 < V g 4 0 → TDY V S G g ∧ CX V S G) (hq1 : ¬ 0 < V g 4 0 → R (some (vI (-1))) c (sM V 0 15 (fun _ => 1))) (hq5 : 0 < V g 4 0 → ∀ V', TQ V V' 5 → FD G S (V' 236) (V' 235) → fWd G (V' 236) (V' 235) = -2 → R (some (vI (-1))) c V') (hq0 : 0 < V g 4 0 → ∀ V' V1 t0, TQ V V' t0 → FD G S (V' 236) (V' 235) → ¬ fWd G (V' 236) (V' 235) = -2 → XQ V' V1 S G 0 → R (some (vI (V1 279 2 0))) c V1) : CC 12 122 [vR (some 0)] c V R := by
  have h0 := gP_cG (c := c) hP
  refine CC_of mt_122 gb_122 (by decide) (by decide) (rcb_o k_0) (Nat.le_of_ble_eq_true rfl) fun n dd hn hd => ?_
  show WW (bX11_explains (gOr n dd)) n [some (vR (some (0)))] _ _ _
  unfold bX11_explains
  have hn0 : 1000000000 ≤ n := hn
  by_cases hc : 0 < V g 4 0
  · obtain ⟨hT, hcx⟩ := h hc
    refine WW_se (WW_if (PE_not (PE_cB (PE_aCR (PE_lR rfl) PE_a0) hn (pc_147 h0) (by omega))) (fun hb => ?_) (fun _ => WW_sk (SQ_n ?_)))
    · rw [decide_eq_true hc] at hb
      cases hb
    refine WW_se (WW_ifE (EE_cz (EE_cIx hn (EE_aCR (EE_pe (PE_lR rfl) (EE_aCR (EE_cR (PE_aCR (PE_lR rfl) PE_a0) hn (cc_159 hT fun V' hT' hf => ?_) (by omega))))) (Nat.le_refl dd))))
    have hQ := TQ_of hT'
    obtain ⟨u1', u2', u3', u4'⟩ := tq_all (c := c) hP hT.2.1 hQ hf
    have hG := hT.2.1.1
    refine ⟨_, rfl, EE_pe PE_a0 (CC_le (CC_pc (pc_162 u1' u2' hG u3') ⟨_, rfl, ?_⟩) (by omega))⟩
    have hlt : fWd G (V' 236) (V' 235) = -2 ∨ 0 ≤ fWd G (V' 236) (V' 235) := by
      unfold fWd
      rcases fst1_spec (fun s => decide (0 ≤ wPd G (V' 236) (V' 235) s)) (-2) (G 6 0).toNat 0 with ⟨q, q0, q1, q2, -⟩ | ⟨q, -⟩
      · exact Or.inr (by omega)
      · exact Or.inl q
    refine ⟨fun hb => ?_, fun hb => WW_sk (SQ_n ?_)⟩
    · have hb : fWd G (V' 236) (V' 235) < 0 := of_decide_eq_true hb
      have he : fWd G (V' 236) (V' 235) = -2 := by omega
      exact WW_rtE (EE_cIx hn (EE_pe (PE_aCR (PE_lR rfl) (PE_aCI PE_kI PE_a0)) (cc_144 ⟨_, rfl, SQ_s ⟨_, rfl, rfl, hq5 hc _ (TQ_15 hQ) hf he⟩⟩)) (by omega))
    · have hb : ¬ fWd G (V' 236) (V' 235) < 0 := of_decide_eq_false hb
      refine WW_se (wW_30 hn (by omega) rfl hP hT hcx hQ hf (by omega) fun V3 h3 hcx3 h31 => SQ_n ?_)
      have hX : XQ V' (sM V3 0 15 (fun _ => 0)) S G 0 := ⟨fun a a0' a1 a2 => by rw [sM_o a0']; exact h3 a a1 a2, fun k hk => by rw [sM_k hk, h3 0 (by decide) (by decide)], by rw [sM_at], CX_eq hcx3 (sM_o (by decide)) rfl, by rw [sM_o (by decide)]; exact h31⟩
      have hq := hq0 hc V' _ _ hQ hf (by omega) hX
      rw [sM_o (by decide)] at hq
      exact WW_rtE (EE_cIx hn (EE_pe (PE_aCR (PE_lR rfl) (PE_aCI (PE_fI rfl (PE_fC rfl (PE_lR rfl) k_0) k_279) PE_a0)) (cc_143 ⟨_, rfl, _, rfl, rfl, hq⟩)) (by omega))
  · refine WW_se (WW_if (PE_not (PE_cB (PE_aCR (PE_lR rfl) PE_a0) hn (pc_147 h0) (by omega))) (fun _ => ?_) (fun hb => ?_))
    · exact WW_rtE (EE_cIx hn (EE_pe (PE_aCR (PE_lR rfl) (PE_aCI PE_kI PE_a0)) (cc_144 ⟨_, rfl, SQ_s ⟨_, rfl, rfl, hq1 hc⟩⟩)) (by omega))
    · rw [decide_eq_false hc] at hb
      cases hb
theorem qc_123 {i w : Int} (hP : gP V g) (h : 0 < V g 4 0 → TDY V S G g ∧ CX V S G) (hq1 : ¬ (0 < V g 4 0 ∧ 0 ≤ w ∧ w ≤ 2) → R (some (vI (-1))) c (sM V 0 15 (fun _ => 1))) (hq5 : (0 < V g 4 0 ∧ 0 ≤ w ∧ w ≤ 2) → ∀ V', TQ V V' 5 → FD G S (V' 236) (V' 235) → fWd G (V' 236) (V' 235) = -2 → R (some (vI (-1))) c V') (hq2 : (0 < V g 4 0 ∧ 0 ≤ w ∧ w ≤ 2) → ∀ V' V1 t0, TQ V V' t0 → FD G S (V' 236) (V' 235) → ¬ fWd G (V' 236) (V' 235) = -2 → XQ V' V1 S G 1 → ¬ (0 ≤ i ∧ i < V1 279 2 0) → R (some (vI (-1))) c V1) (hq0 : (0 < V g 4 0 ∧ 0 ≤ w ∧ w ≤ 2) → ∀ V' V1 t0, TQ V V' t0 → FD G S (V' 236) (V' 235) → ¬ fWd G (V' 236) (V' 235) = -2 → XQ V' V1 S G 0 → (0 ≤ i ∧ i < V1 279 2 0) → R (some (vI (prtF (V1 279 1 i) w))) c V1) : CC 12 123 [vR (some 0), vI i, vI w] c V R := by
  have h0 := gP_cG (c := c) hP
  refine CC_of mt_123 gb_123 (by decide) (by decide) (rcb_o k_0) (Nat.le_of_ble_eq_true rfl) fun n dd hn hd => ?_
  show WW (bX11_explain (gOr n dd)) n [some (vR (some (0))), some (vI (i)), some (vI (w))] _ _ _
  unfold bX11_explain
  have hn0 : 1000000000 ≤ n := hn
  have hcond := PE_or (PE_or (PE_not (PE_cB (L := [some (vR (some 0)), some (vI i), some (vI w)]) (PE_aCR (PE_lR (i := 0) rfl) PE_a0) hn (pc_147 h0) (by omega : 1 ≤ dd))) (fun _ => PE_cz (op := .lt) (PE_lI (i := 2) rfl))) (fun _ => PE_cm (op := .gt) (PE_lI (i := 2) rfl) (PE_kI (z := 2)))
  have ecb : ((!(decide (0 < V g 4 0)) || cmB ClassFile.Cond.lt w 0) || cmB ClassFile.Cond.gt w 2) = decide (¬ (0 < V g 4 0 ∧ 0 ≤ w ∧ w ≤ 2)) := by
    apply Bool.eq_iff_iff.mpr
    simp only [Bool.or_eq_true, Bool.not_eq_true', decide_eq_false_iff_not, decide_eq_true_eq, cmB]
    omega
  rw [ecb] at hcond
  by_cases hc : 0 < V g 4 0 ∧ 0 ≤ w ∧ w ≤ 2
  · obtain ⟨hT, hcx⟩ := h hc.1
    refine WW_se (WW_if hcond (fun hb => absurd hc (of_decide_eq_true hb)) (fun _ => WW_sk (SQ_n ?_)))
    refine WW_se (WW_ifE (EE_cz (EE_cIx hn (EE_aCR (EE_pe (PE_lR rfl) (EE_aCR (EE_cR (PE_aCR (PE_lR rfl) PE_a0) hn (cc_159 hT fun V' hT' hf => ?_) (by omega))))) (Nat.le_refl dd))))
    have hQ := TQ_of hT'
    obtain ⟨u1', u2', u3', u4'⟩ := tq_all (c := c) hP hT.2.1 hQ hf
    have hG := hT.2.1.1
    refine ⟨_, rfl, EE_pe PE_a0 (CC_le (CC_pc (pc_162 u1' u2' hG u3') ⟨_, rfl, ?_⟩) (by omega))⟩
    have hlt : fWd G (V' 236) (V' 235) = -2 ∨ 0 ≤ fWd G (V' 236) (V' 235) := by
      unfold fWd
      rcases fst1_spec (fun s => decide (0 ≤ wPd G (V' 236) (V' 235) s)) (-2) (G 6 0).toNat 0 with ⟨q, q0, q1, q2, -⟩ | ⟨q, -⟩
      · exact Or.inr (by omega)
      · exact Or.inl q
    refine ⟨fun hb => ?_, fun hb => WW_sk (SQ_n ?_)⟩
    · have hb : fWd G (V' 236) (V' 235) < 0 := of_decide_eq_true hb
      have he : fWd G (V' 236) (V' 235) = -2 := by omega
      exact WW_rtE (EE_cIx hn (EE_pe (PE_aCR (PE_lR rfl) (PE_aCI PE_kI PE_a0)) (cc_144 ⟨_, rfl, SQ_s ⟨_, rfl, rfl, hq5 hc _ (TQ_15 hQ) hf he⟩⟩)) (by omega))
    · have hb : ¬ fWd G (V' 236) (V' 235) < 0 := of_decide_eq_false hb
      refine WW_se (wW_30 hn (by omega) rfl hP hT hcx hQ hf (by omega) fun V3 h3 hcx3 h31 => SQ_n ?_)
      have hX : ∀ t, XQ V' (sM V3 0 15 (fun _ => t)) S G t := fun t => ⟨fun a a0' a1 a2 => by rw [sM_o a0']; exact h3 a a1 a2, fun k hk => by rw [sM_k hk, h3 0 (by decide) (by decide)], by rw [sM_at], CX_eq hcx3 (sM_o (by decide)) rfl, by rw [sM_o (by decide)]; exact h31⟩
      have e79 : ∀ f, sM V3 0 15 f 279 = V3 279 := fun f => sM_o (by decide)
      have p2 : PE (fI 3 2 (fR 11 10 (lR 0))) [some (vR (some 0)), some (vI i), some (vI w)] c V3 (V3 279 2 0) := PE_fI (a := 279) rfl (PE_fC (p := 279) (N := 0) (a := 0) (ci := 11) (k := 10) rfl (PE_lR rfl) k_0) k_279
      have hcond2 := PE_or (PE_cz (op := .lt) (PE_lI (i := 1) (L := [some (vR (some 0)), some (vI i), some (vI w)]) (c := c) (V := V3) rfl)) (fun _ => PE_cm (op := .ge) (PE_lI (i := 1) rfl) p2)
      have ecb2 : (cmB ClassFile.Cond.lt i 0 || cmB ClassFile.Cond.ge i (V3 279 2 0)) = decide (¬ (0 ≤ i ∧ i < V3 279 2 0)) := by
        apply Bool.eq_iff_iff.mpr
        simp only [Bool.or_eq_true, decide_eq_true_eq, cmB]
        omega
      rw [ecb2] at hcond2
      by_cases hi : 0 ≤ i ∧ i < V3 279 2 0
      · refine WW_se (WW_if hcond2 (fun hb => absurd hi (of_decide_eq_true hb)) (fun _ => WW_sk (SQ_n ?_)))
        have hq := hq0 hc V' _ _ hQ hf (by omega) (hX 0) (by rw [e79]; exact hi)
        rw [e79] at hq
        have y0 := hG.1
        have hr : (0 ≤ V3 279 1 i ∧ V3 279 1 i < 100000) ∧ V3 279 2 0 ≤ 840 := by
          rcases hcx3 with q | ⟨-, v, -, -, hxp⟩
          · omega
          · obtain ⟨d, a, b, e, d0, d1, q0, q1, q2, -⟩ := hxp.2.1 i hi.1 hi.2
            have := hG.2.1
            have := hxp.1
            omega
        refine WW_rtE (EE_cIx hn (EE_pe (PE_aCR (PE_lR rfl) (PE_aCI (PE_cI (PE_aCR (PE_fC rfl (PE_lR rfl) k_0) (PE_aCI (PE_lI rfl) (PE_aCI (PE_lI rfl) PE_a0))) hn (pc_31 hi.1 (by omega) hr.1.1 hr.1.2) (by omega)) PE_a0)) (cc_143 ⟨_, rfl, _, rfl, rfl, hq⟩)) (by omega))
      · refine WW_se (WW_if hcond2 (fun _ => ?_) (fun hb => absurd hi (of_decide_eq_false hb)))
        have hq := hq2 hc V' _ _ hQ hf (by omega) (hX 1) (by rw [e79]; exact hi)
        exact WW_rtE (EE_cIx hn (EE_pe (PE_aCR (PE_lR rfl) (PE_aCI PE_kI PE_a0)) (cc_144 ⟨_, rfl, SQ_s ⟨_, rfl, rfl, hq⟩⟩)) (by omega))
  · refine WW_se (WW_if hcond (fun _ => ?_) (fun hb => absurd hc (of_decide_eq_false hb)))
    exact WW_rtE (EE_cIx hn (EE_pe (PE_aCR (PE_lR rfl) (PE_aCI PE_kI PE_a0)) (cc_144 ⟨_, rfl, SQ_s ⟨_, rfl, rfl, hq1 hc⟩⟩)) (by omega))
end XK
section XL
variable {c : cT} {V V' V1 V2 : Mem} {g m : Nat} {t t0 : Int}
theorem fin_x (h : RC c V) (hP : gP V g) (hm : mG c V m) (hm3 : 331 ≤ m) (hgl : GL V (V 305) (V m) g) (hQ : TQ V V' t0) (hf : FD (V m) (V 305) (V' 236) (V' 235)) (hX : XQ V' V1 (V 305) (V m) t) (hV : mqV V1 V2 t) (ht : t ≠ 4) : RC c V2 := by
  rw [mqV_eq hV]
  obtain ⟨x1, x2, x3, x4, x5⟩ := hX
  have h5 : V1 305 = V 305 := (x1 305 (by decide) (by decide) (by decide)).trans (tq_o hQ (by omega))
  have hsc := TQ_SC hQ
  refine RC_q h hP hm hgl hm3 ⟨fun k hk => (x2 k (by omega)).trans (hsc.1 k hk), fun a ha => (x1 a (by rintro rfl; exact core_0 ha) (by rintro rfl; unfold core at ha; omega) (by rintro rfl; unfold core at ha; omega)).trans (hsc.2 a ha)⟩ (Or.inr ⟨by rw [x2 14 (by decide)]; exact hQ.2.2.1, by rw [x1 236 (by decide) (by decide) (by decide), x1 235 (by decide) (by decide) (by decide)]; exact hf⟩) x4 x3 ?_ hV.2.1 hV.2.2 ht
  have := hV.1.2
  rwa [h5] at this
theorem XQ_o (hQ : TQ V V' t0) {S G : oV} (hX : XQ V' V1 S G t) {a : Nat} (ha : 305 ≤ a) : V1 a = V a := (hX.1 a (by omega) (by omega) (by omega)).trans (tq_o hQ ha)
/-- how many, and which, by what the class has found -/
theorem XQ_c {S G : oV} (hG : GW G) (hvs : VW G (S 18)) (hX : XQ V' V1 S G t) : V1 279 2 0 = cnt (64 * G 0 0).toNat (okX G (S 18)) ∧ ∀ x, 0 ≤ x → x < 64 * G 0 0 → okX G (S 18) x = true → V1 279 1 (cnt x.toNat (okX G (S 18))) = x := by
  obtain ⟨-, -, -, hcx, h3⟩ := hX
  have y0 := hG.1
  rcases hcx with q | ⟨-, v, v1, v2, hxp⟩
  · omega
  · obtain ⟨e1, e2⟩ := XP_XC hG hxp
    have ec : ∀ n : Nat, (n : Int) ≤ 64 * G 0 0 → cnt n (okX G v) = cnt n (okX G (S 18)) := fun n hn => cnt_congr fun j j0 j1 => okX_v hG v1 v2 hvs j0 (by omega)
    refine ⟨by rw [e1, ec _ (by omega)], fun x x0 x1 hx => ?_⟩
    rw [← ec _ (by omega)]
    exact e2 x x0 x1 (by rw [okX_v hG v1 v2 hvs x0 x1]; exact hx)
theorem ca_122 (h : RC c V) : GC c V 122 273 [] := by
  obtain ⟨c1, c2, g, hP, htp, htr, ⟨hz, hn⟩ | ⟨m, hm, hm3, hgl⟩⟩ := id h
  · have e4 : V g 4 0 = 0 := hn.1.2.2.2.2.1
    refine CC_le (qc_122 (S := V 305) (G := V 305) hP (fun q => by omega) (fun _ => ⟨-1, rfl, ?_⟩) (fun hc => by omega) (fun hc => by omega)) (by decide)
    exact CC_le (qz_273 (by rw [sM_o (by decide)]; exact hz) (fun V2 hV => ⟨rfl, cLE_rf, fin_n h hP hz hn hV rfl (by decide)⟩)) (by decide)
  · have hT : TDY V (V 305) (V m) g := ⟨hP, hgl.1, hgl.2.1⟩
    obtain ⟨z0, z1, z4, e0, e1, e4⟩ := GL_sz hgl.1
    refine CC_le (qc_122 (S := V 305) (G := V m) hP (fun _ => ⟨hT, hgl.2.2⟩) (fun hc => by omega) (fun hc V' hQ hf hw => ⟨-1, rfl, ?_⟩) (fun hc V' V1 t0 hQ hf hw hX => ⟨_, rfl, ?_⟩)) (by decide)
    · have h5 : V' 305 = V 305 := tq_o hQ (by omega)
      have hv : V' m = V m := tq_o hQ (by omega)
      exact CC_le (qm_273 (g := m) (K := V' 236) (D := V' 235) (RH_tq hm hm3 hgl.1 h5 hv hf) (fun _ V2 hV => ⟨rfl, cLE_rf, fin_q h hP hm hm3 hgl hQ hf hV (by decide)⟩) (fun q => absurd (by rw [hv]; exact hw) q)) (by decide)
    · have h5 : V1 305 = V 305 := XQ_o hQ hX (by omega)
      have hv : V1 m = V m := XQ_o hQ hX (by omega)
      refine CC_le (qm_273 (g := m) (K := V' 236) (D := V' 235) (RH_tq hm hm3 hgl.1 h5 hv hf) (fun q => absurd (by rw [hv] at q; exact q) hw) (fun _ V2 hV => ⟨?_, cLE_rf, fin_x h hP hm hm3 hgl hQ hf hX hV (by decide)⟩)) (by decide)
      rw [hv, h5, (XQ_c hgl.1.1 hgl.1.2.2.2.1 hX).1]
theorem ca_123 {i w : Int} (h : RC c V) : GC c V 123 274 [vI i, vI w] := by
  obtain ⟨c1, c2, g, hP, htp, htr, ⟨hz, hn⟩ | ⟨m, hm, hm3, hgl⟩⟩ := id h
  · have e4 : V g 4 0 = 0 := hn.1.2.2.2.2.1
    refine CC_le (qc_123 (S := V 305) (G := V 305) hP (fun q => by omega) (fun _ => ⟨-1, rfl, ?_⟩) (fun hc => by omega) (fun hc => by omega) (fun hc => by omega)) (by decide)
    exact CC_le (qz_274 (by rw [sM_o (by decide)]; exact hz) (fun V2 hV => ⟨rfl, cLE_rf, fin_n h hP hz hn hV rfl (by decide)⟩)) (by decide)
  · have hT : TDY V (V 305) (V m) g := ⟨hP, hgl.1, hgl.2.1⟩
    obtain ⟨z0, z1, z4, e0, e1, e4⟩ := GL_sz hgl.1
    refine CC_le (qc_123 (S := V 305) (G := V m) hP (fun _ => ⟨hT, hgl.2.2⟩) (fun hc => ⟨-1, rfl, ?_⟩) (fun hc V' hQ hf hw => ⟨-1, rfl, ?_⟩) (fun hc V' V1 t0 hQ hf hw hX hi => ⟨-1, rfl, ?_⟩) (fun hc V' V1 t0 hQ hf hw hX hi => ⟨_, rfl, ?_⟩)) (by decide)
    · obtain ⟨K, D, hf⟩ := FD_ex (S := V 305) hgl.1.1
      exact CC_le (qm_274 (g := m) (K := K) (D := D) (RH_tq hm hm3 hgl.1 (sM_o (by decide)) (sM_o (by omega)) hf) (fun _ V2 hV => ⟨rfl, cLE_rf, fin_15 h hP hm hm3 hgl hV rfl (by decide)⟩) (fun q => absurd ⟨by omega, q⟩ hc) (fun q => absurd ⟨by omega, q⟩ hc) (fun q => absurd ⟨by omega, q⟩ hc)) (by decide)
    · have h5 : V' 305 = V 305 := tq_o hQ (by omega)
      have hv : V' m = V m := tq_o hQ (by omega)
      exact CC_le (qm_274 (g := m) (K := V' 236) (D := V' 235) (RH_tq hm hm3 hgl.1 h5 hv hf) (fun q => absurd hc.2 q) (fun _ _ V2 hV => ⟨rfl, cLE_rf, fin_q h hP hm hm3 hgl hQ hf hV (by decide)⟩) (fun _ q => absurd (by rw [hv]; exact hw) q) (fun _ q => absurd (by rw [hv]; exact hw) q)) (by decide)
    · have h5 : V1 305 = V 305 := XQ_o hQ hX (by omega)
      have hv : V1 m = V m := XQ_o hQ hX (by omega)
      obtain ⟨k1, k2⟩ := XQ_c hgl.1.1 hgl.1.2.2.2.1 hX
      refine CC_le (qm_274 (g := m) (K := V' 236) (D := V' 235) (RH_tq hm hm3 hgl.1 h5 hv hf) (fun q => absurd hc.2 q) (fun _ q => absurd (by rw [hv] at q; exact q) hw) (fun _ _ _ V2 hV => ⟨rfl, cLE_rf, fin_x h hP hm hm3 hgl hQ hf hX hV (by decide)⟩) (fun _ _ x x0 x1 x2 x3 => absurd ?_ hi)) (by decide)
      rw [hv, h5] at x2 x3
      rw [hv] at x1
      have hlt := cnt_lt x0 x2 (n := (64 * V m 0 0).toNat) (by omega)
      have := (cnt_le (n := x.toNat) (P := okX (V m) (V 305 18))).1
      omega
    · have h5 : V1 305 = V 305 := XQ_o hQ hX (by omega)
      have hv : V1 m = V m := XQ_o hQ hX (by omega)
      obtain ⟨k1, k2⟩ := XQ_c hgl.1.1 hgl.1.2.2.2.1 hX
      refine CC_le (qm_274 (g := m) (K := V' 236) (D := V' 235) (RH_tq hm hm3 hgl.1 h5 hv hf) (fun q => absurd hc.2 q) (fun _ q => absurd (by rw [hv] at q; exact q) hw) (fun _ _ q => absurd (by rw [hv, h5, ← k1]; exact hi) q) (fun _ _ x x0 x1 x2 x3 V2 hV => ⟨?_, cLE_rf, fin_x h hP hm hm3 hgl hQ hf hX hV (by decide)⟩)) (by decide)
      rw [hv, h5] at x2 x3
      rw [hv] at x1
      have := k2 x x0 x1 x2
      rw [x3] at this
      rw [this]
end XL
