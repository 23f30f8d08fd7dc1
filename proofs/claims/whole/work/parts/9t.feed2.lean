/-! FEED in the reference; the call -/
section FR
variable {c : cT} {V : Mem} {R : Option gAV → cT → Mem → Prop}
theorem pick5 {L : gLo} {W : Mem} {a b x d e j : Int} {k : Nat} (hk : j = (k : Int)) (h1 : L[1]? = some (some (vI a))) (h2 : L[2]? = some (some (vI b))) (h3 : L[3]? = some (some (vI x))) (h4 : L[4]? = some (some (vI d))) (h5 : L[5]? = some (some (vI e))) (h6 : L[6]? = some (some (vI j))) : PE (gIte (cmC .lt (lI 6) (kI 4)) (lI 1) (gIte (cmC .lt (lI 6) (kI 8)) (lI 2) (gIte (cmC .lt (lI 6) (kI 12)) (lI 3) (gIte (cmC .lt (lI 6) (kI 16)) (lI 4) (lI 5))))) L c W (if k < 4 then a else if k < 8 then b else if k < 12 then x else if k < 16 then d else e) := by
  have := PE_ite (PE_cm (op := .lt) (PE_lI (c := c) (V := W) h6) (PE_kI (z := 4))) (fun _ => PE_lI h1) (fun _ => PE_ite (PE_cm (op := .lt) (PE_lI h6) (PE_kI (z := 8))) (fun _ => PE_lI h2) (fun _ => PE_ite (PE_cm (op := .lt) (PE_lI h6) (PE_kI (z := 12))) (fun _ => PE_lI h3) (fun _ => PE_ite (PE_cm (op := .lt) (PE_lI h6) (PE_kI (z := 16))) (fun _ => PE_lI h4) (fun _ => PE_lI h5))))
  subst hk
  have e4 : ∀ q : Nat, (cmB .lt (k : Int) (q : Int) = true) = (k < q) := fun q => by simp [cmB]
  have e1 := e4 4
  have e2 := e4 8
  have e3 := e4 12
  have e5 := e4 16
  simp only [Int.cast_ofNat_Int] at e1 e2 e3 e5
  simp only [e1, e2, e3, e5] at this
  exact this
theorem cc_203 {a b x d e : Int} (h0 : 0 ≤ V 305 6 0) (h1 : V 305 6 0 ≤ 1000) (hq1 : V 305 6 0 + 20 ≤ 1000 → R (some (vI (V 305 6 0 + 20))) c (sM (sM (sM V 305 0 (fun _ => 0)) 305 5 (fdn (V 305 5) (V 305 6 0) (bt5 a b x d e) 20)) 305 6 (fun _ => V 305 6 0 + 20))) (hq2 : ¬ V 305 6 0 + 20 ≤ 1000 → R (some (vI (-1))) c (sM V 305 0 (fun _ => 0))) : CC 3 203 [vR (some 305), vI a, vI b, vI x, vI d, vI e] c V R := by
  refine CC_of mt_203 gb_203 (by decide) (by decide) (rcb_o k_305) (Nat.le_of_ble_eq_true rfl) fun n dd hn hd => ?_
  show WW (bX13_feed (gOr n dd)) n [some (vR (some (305))), some (vI (a)), some (vI (b)), some (vI (x)), some (vI (d)), some (vI (e)), none, none] _ _ _
  unfold bX13_feed
  have hn0 : 1000000000 ≤ n := hn
  refine WW_se (WW_pf rfl (PE_lR rfl) k_305 PE_kI (SQ_n ?_))
  have w5 : sM V 305 0 (fun _ => 0) 305 5 = V 305 5 := sM_k (by decide)
  have w6 : sM V 305 0 (fun _ => 0) 305 6 = V 305 6 := sM_k (by decide)
  rw [← w5, ← w6] at hq1
  rw [← w6] at h0 h1 hq2
  generalize sM V 305 0 (fun _ => (0 : Int)) = W at *
  have ez : zAdd (W 305 6 0) 20 = W 305 6 0 + 20 := zAdd_id (by omega) (by omega)
  by_cases hc : W 305 6 0 + 20 ≤ 1000
  · have hq := hq1 hc
    clear hq1 hq2
    refine WW_se (WW_if (PE_cm (PE_o2 (PE_fI rfl (PE_lR rfl) k_305) PE_kI) PE_kI) (fun hb => ?_) (fun _ => WW_sk (SQ_n ?_)))
    · have := of_decide_eq_true hb
      rw [ez] at this
      omega
    refine WW_se (WW_se (WW_st PE_kI (SQ_n ?_)))
    refine WW_for 900000000 0 20 (fun j L1 c1 V1 => ∃ (k : Nat) (w : Int → Int) (y : Option gAV), j = (k : Int) ∧ L1 = [some (vR (some 305)), some (vI a), some (vI b), some (vI x), some (vI d), some (vI e), some (vI j), y] ∧ c1 = c ∧ V1 = sM (sM W 305 5 (fdn (W 305 5) (W 305 6 0) (bt5 a b x d e) k)) 305 6 w ∧ w 0 = W 305 6 0 + k ∧ (k = 20 → w = fun _ => W 305 6 0 + 20)) (by omega) (by omega) (by omega) (by omega) ⟨0, W 305 6, none, rfl, rfl, rfl, ?_, by omega, by omega⟩ ?_ ?_ ?_
    · show W = sM (sM W 305 5 (W 305 5)) 305 6 (W 305 6)
      rw [sM_id, sM_id]
    · rintro j _ _ _ j0 j1 ⟨k, w, y, hjk, rfl, rfl, rfl, hw, hw4⟩
      exact ⟨rfl, PE_kI⟩
    · rintro j k' _ c _ j0 j1 hk' ⟨k, w, y, hjk, rfl, rfl, rfl, hw, hw4⟩
      have e1 : sM (sM W 305 5 (fdn (W 305 5) (W 305 6 0) (bt5 a b x d e) k)) 305 6 w 305 6 0 = W 305 6 0 + k := by rw [sM_at]; exact hw
      have e0 : sM (sM W 305 5 (fdn (W 305 5) (W 305 6 0) (bt5 a b x d e) k)) 305 6 w 305 5 = fdn (W 305 5) (W 305 6 0) (bt5 a b x d e) k := by rw [sM_k (by decide), sM_at]
      refine WW_se (WW_st (pick5 hjk rfl rfl rfl rfl rfl rfl) (SQ_n ?_))
      have er : zSub 24 (zMul 8 (zRem j 4)) = 24 - 8 * ((k : Int) % 4) := by
        rw [zRem_id j0, hjk, zMul_id (by omega) (by omega), zSub_id (by omega) (by omega)]
      refine WW_se (WW_asF (ty := 1) (z := bt5 a b x d e k) rfl (by decide) (PE_lR rfl) k_305 (PE_fI rfl (PE_lR rfl) k_305) (by rw [e1]; omega) (by rw [e1]; omega) (PE_o1 (PE_o2 (PE_lI rfl) (PE_o2 PE_kI (PE_o2 PE_kI (PE_o2p (PE_lI rfl) PE_kI (by decide)))))) (by rw [er]; show some (zByte (zByte _)) = some (bt5 a b x d e k); rw [zByte_zByte]; rfl) (SQ_n ?_))
      rw [e0, e1]
      refine WW_pu rfl (PE_lR rfl) k_305 PE_kI (LQ_n ⟨rfl, k + 1, fun _ => W 305 6 0 + ((k + 1 : Nat) : Int), _, by omega, rfl, rfl, ?_, rfl, fun q => ?_⟩)
      · have e2 : sM (sM (sM W 305 5 (fdn (W 305 5) (W 305 6 0) (bt5 a b x d e) k)) 305 6 w) 305 5 (gUz (fdn (W 305 5) (W 305 6 0) (bt5 a b x d e) k) (W 305 6 0 + k) (bt5 a b x d e k)) 305 6 0 = W 305 6 0 + k := by rw [sM_k (by decide), sM_at]; exact hw
        rw [e2, zAdd_id (by omega) (by omega)]
        funext z q
        by_cases hb0 : z = 305
        · subst hb0
          by_cases q1 : q = 6
          · subst q1
            rw [sM_at, sM_at]
            funext _
            omega
          · rw [sM_k q1, sM_k q1]
            by_cases q0 : q = 5
            · subst q0
              rw [sM_at, sM_at]
              rfl
            · rw [sM_k q0, sM_k q1, sM_k q0, sM_k q0]
        · rw [sM_o hb0, sM_o hb0, sM_o hb0, sM_o hb0, sM_o hb0, sM_o hb0]
      · have : k = 19 := by omega
        subst this
        rfl
    · rintro _ c _ ⟨k, w, y, hjk, rfl, rfl, rfl, hw, hw4⟩
      have : k = 20 := by omega
      subst this
      rw [hw4 rfl]
      refine SQ_n (WW_rt (PE_fI rfl (PE_lR rfl) k_305) ⟨_, rfl, rfl, ?_⟩)
      rw [sM_at]
      exact hq
  · have hq := hq2 hc
    clear hq1 hq2
    refine WW_se (WW_if (PE_cm (PE_o2 (PE_fI rfl (PE_lR rfl) k_305) PE_kI) PE_kI) (fun hb => WW_rt PE_kI (SQ_s ⟨_, rfl, rfl, hq⟩)) (fun hb => ?_))
    have := of_decide_eq_false hb
    rw [ez] at this
    omega
theorem RC_tape {V2 : Mem} (h : RC c V) (ho : ∀ a, a ≠ 0 → a ≠ 305 → V2 a = V a) (h0 : ∀ k, k ≠ 0 → k ≠ 1 → V2 0 k = V 0 k) (h5 : ∀ k, k ≠ 0 → k ≠ 5 → k ≠ 6 → V2 305 k = V 305 k) (ht : TPE V2 (V2 305)) : RC c V2 := by
  obtain ⟨c1, c2, g, hP, -, htr, hz⟩ := h
  have hgv := hP.1
  refine ⟨c1, c2, g, ⟨hP.1, by rw [h0 2 (by decide) (by decide)]; exact hP.2.1, by rw [h0 3 (by decide) (by decide)]; exact hP.2.2⟩, ht, ?_, ?_⟩
  · unfold TRB at htr ⊢
    rw [h0 15 (by decide) (by decide), h5 1 (by decide) (by decide) (by decide), h5 2 (by decide) (by decide) (by decide), ho 84 (by decide) (by decide)]
    exact htr
  · rcases hz with ⟨hz, hn⟩ | ⟨m, hmg, hm3, ⟨l1, l2, l3, l4, l5, l6⟩, hd, hx⟩
    · refine Or.inl ⟨by rw [h5 3 (by decide) (by decide) (by decide)]; exact hz, ?_⟩
      unfold NG at hn ⊢
      rw [ho g (by omega) (by omega), ho 85 (by decide) (by decide), ho 99 (by decide) (by decide), ho 279 (by decide) (by decide), h0 14 (by decide) (by decide), ho 236 (by decide) (by decide)]
      exact hn
    · have em : V2 m = V m := ho m (by omega) (by omega)
      have e18 : V2 305 18 = V 305 18 := h5 18 (by decide) (by decide) (by decide)
      refine Or.inr ⟨m, ⟨by rw [h5 3 (by decide) (by decide) (by decide)]; exact hmg.1, hmg.2⟩, hm3, ?_⟩
      rw [em]
      refine ⟨⟨l1, GR_ext l2 (ho g (by omega) (by omega)) (fun p hp => ho _ (by omega) (by omega)) l1.2.2.2.2.1.2, by rw [e18]; exact WR_ext l3 (ho 85 (by decide) (by decide)), by rw [e18]; exact l4, MEMO_ext l5 (fun a a0 a1 => ho a (by omega) (by omega)) (fun k k0 k1 => h5 k (by omega) (by omega) (by omega)), by rw [ho 299 (by decide) (by decide)]; exact l6⟩, CDy_eq hd (ho _ (by decide) (by decide)) (ho _ (by decide) (by decide)) (h0 14 (by decide) (by decide)) e18, CX_eq hx (ho _ (by decide) (by decide)) e18⟩
theorem ca_88 {a b x d e : Int} (h : RC c V) : GC c V 88 203 [vI a, vI b, vI x, vI d, vI e] := by
  obtain ⟨c1, c2, g, hP, ⟨⟨t1, t2⟩, t3, t4, t5⟩, htr, hz⟩ := id h
  refine CC_le (cc_88 (by omega) (by omega) (fun hc => ⟨_, rfl, ?_⟩) (fun hc => ⟨_, rfl, ?_⟩)) (by decide)
  · have e5 : sM (sM V 0 0 (fdn (V 0 0) (V 0 1 0) (bt5 a b x d e) 20)) 0 1 (fun _ => V 0 1 0 + 20) 305 = V 305 := by rw [sM_o (by decide), sM_o (by decide)]
    refine CC_le (cc_203 (by rw [e5]; exact t1) (by rw [e5]; exact t2) (fun _ => ⟨by rw [e5, t3], cLE_rf, ?_⟩) (fun q => absurd (by rw [e5]; omega) q)) (by decide)
    rw [e5]
    refine RC_tape h ?_ ?_ ?_ ?_
    · intro q q0 q1
      rw [sM_o q1, sM_o q1, sM_o q1, sM_o q0, sM_o q0]
    · intro k k0 k1
      rw [sM_o (by decide), sM_o (by decide), sM_o (by decide), sM_k k1, sM_k k0]
    · intro k k0 k5 k6
      rw [sM_k k6, sM_k k5, sM_k k0, e5]
    · unfold TPE
      have f0 : ∀ k, k ≠ 5 → k ≠ 6 → k ≠ 0 → sM (sM (sM (sM (sM V 0 0 (fdn (V 0 0) (V 0 1 0) (bt5 a b x d e) 20)) 0 1 (fun _ => V 0 1 0 + 20)) 305 0 (fun _ => 0)) 305 5 (fdn (V 305 5) (V 305 6 0) (bt5 a b x d e) 20)) 305 6 (fun _ => V 305 6 0 + 20) 305 k = V 305 k := fun k k5 k6 k0 => by rw [sM_k k6, sM_k k5, sM_k k0, e5]
      rw [sM_at, sM_k (show (5 : Nat) ≠ 6 by decide), sM_at, f0 14 (by decide) (by decide) (by decide)]
      rw [sM_o (show (0 : Nat) ≠ 305 by decide), sM_o (show (0 : Nat) ≠ 305 by decide), sM_o (show (0 : Nat) ≠ 305 by decide), sM_at, sM_k (show (0 : Nat) ≠ 1 by decide), sM_at]
      rw [sM_o (show (84 : Nat) ≠ 305 by decide), sM_o (show (84 : Nat) ≠ 305 by decide), sM_o (show (84 : Nat) ≠ 305 by decide), sM_o (show (84 : Nat) ≠ 0 by decide), sM_o (show (84 : Nat) ≠ 0 by decide)]
      refine ⟨by omega, by omega, fun i i0 i1 => ?_, t5⟩
      rw [t3]
      exact ⟨fdn_ext (fun q q0 q1 => (t4 q q0 q1).1) i0 i1, fdn_le (fun q q0 q1 => (t4 q q0 q1).2) (fun k => zByte_le) i0 i1⟩
  · refine CC_le (cc_203 t1 t2 (fun q => absurd (by omega) hc) (fun _ => ⟨rfl, cLE_rf, RC_thr h⟩)) (by decide)
end FR
