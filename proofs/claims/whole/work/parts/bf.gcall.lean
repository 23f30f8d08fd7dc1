/-! glass(): the call -/
section GCL2
variable {c : cT} {V : Mem} {g : Nat}
theorem cN_1 : (cN c).1 = c.1 + 20 := rfl
theorem cN_331 (h1 : 331 ≤ c.1) : 331 ≤ (cN c).1 := Nat.le_trans h1 (Nat.le_add_right c.1 20)
theorem cN_m {k : Nat} (h : k % 20 = 0) : (331 + k + 20 - 331) % 20 = 0 := by
  rw [Nat.add_assoc, Nat.add_sub_cancel_left, Nat.add_mod_right]
  exact h
theorem cN_20 (h1 : 331 ≤ c.1) (h2 : (c.1 - 331) % 20 = 0) : ((cN c).1 - 331) % 20 = 0 := by
  obtain ⟨k, hk⟩ : ∃ k, k = c.1 - 331 := ⟨_, rfl⟩
  have e : c.1 = 331 + k := by rw [hk, Nat.add_sub_cancel' h1]
  rw [← hk] at h2
  have q := cN_m h2
  rw [← e] at q
  exact q
theorem mcl_cN {a ci : Nat} (h331 : 331 ≤ c.1) (h : mcl c.1 a = some ci) : mcl (cN c).1 a = some ci := by
  by_cases hl : a < 331
  · unfold mcl at h ⊢
    rw [if_pos hl] at h ⊢
    exact h
  · obtain ⟨rfl, u1, u2⟩ := mcl_dyn hl h
    unfold mcl
    rw [if_neg hl, if_pos ⟨u1, by show a + 20 ≤ c.1 + 20; omega⟩]
theorem mcl_lt {a ci : Nat} (h331 : 331 ≤ c.1) (h : mcl c.1 a = some ci) : a < c.1 := by
  by_cases hl : a < 331
  · omega
  · have := (mcl_dyn hl h).2.2
    omega
theorem cN_le : cLE c (cN c) := ⟨by show c.2.1 + 20 ≤ c.2.1 + 25; omega, by show c.2.2 + 275 ≤ c.2.2 + 2000; omega⟩
/-- a flaw: the old glass stays -/
theorem RC_flt {V2 : Mem} (h331 : 331 ≤ c.1) (h20 : (c.1 - 331) % 20 = 0) (hP : gP V g) (hz : (V 305 3 0 = -1 ∧ NG V g) ∨ ∃ m, mG c V m ∧ 331 ≤ m ∧ GL V (V 305) (V m) g) (ho : ∀ a, a ≠ 0 → a ≠ 84 → a ≠ 305 → a < 45 - g ∨ 45 - g + 41 ≤ a → a < c.1 → V2 a = V a) (h0 : ∀ k, k ≠ 1 → k ≠ 15 → V2 0 k = V 0 k) (h5 : ∀ k : Nat, k = 3 ∨ k = 5 ∨ 17 < k → V2 305 k = V 305 k) (ht : TPE V2 (V2 305)) (hb : TRB V2 (V2 305)) : RC (cN c) V2 := by
  have hgv := hP.1
  refine ⟨cN_331 h331, cN_20 h331 h20, g, ⟨hP.1, by rw [h0 2 (by decide) (by decide)]; exact hP.2.1, by rw [h0 3 (by decide) (by decide)]; exact hP.2.2⟩, ht, hb, ?_⟩
  have og : V2 g = V g := ho g (by omega) (by omega) (by omega) (by omega) (by omega)
  have op : ∀ p : Nat, p < 7 → V2 (g + 13 + 4 * p) = V (g + 13 + 4 * p) := fun p hp => ho _ (by omega) (by omega) (by omega) (by omega) (by omega)
  have oz : ∀ a, 85 ≤ a → a < 305 → V2 a = V a := fun a a0 a1 => ho a (by omega) (by omega) (by omega) (by omega) (by omega)
  rcases hz with ⟨hz, hn⟩ | ⟨m, hmg, hm3, ⟨l1, l2, l3, l4, l5, l6⟩, hd, hx⟩
  · refine Or.inl ⟨by rw [h5 3 (by omega)]; exact hz, ?_⟩
    unfold NG at hn ⊢
    rw [og, oz 85 (by decide) (by decide), oz 99 (by decide) (by decide), oz 279 (by decide) (by decide), h0 14 (by decide) (by decide), oz 236 (by decide) (by decide)]
    exact hn
  · have hlt := mcl_lt h331 hmg.2.1
    have em : V2 m = V m := ho m (by omega) (by omega) (by omega) (by omega) hlt
    have e18 : V2 305 18 = V 305 18 := h5 18 (by omega)
    refine Or.inr ⟨m, ⟨by rw [h5 3 (by omega)]; exact hmg.1, mcl_cN h331 hmg.2.1, hmg.2.2⟩, hm3, ?_⟩
    rw [em]
    exact ⟨⟨l1, GR_ext l2 og op l1.2.2.2.2.1.2, by rw [e18]; exact WR_ext l3 (oz 85 (by decide) (by decide)), by rw [e18]; exact l4, MEMO_ext l5 (fun a a0 a1 => oz a (by omega) (by omega)) (fun k k0 k1 => h5 k (by omega)), by rw [oz 299 (by decide) (by decide)]; exact l6⟩, CDy_eq hd (oz _ (by decide) (by decide)) (oz _ (by decide) (by decide)) (h0 14 (by decide) (by decide)) e18, CX_eq hx (oz _ (by decide) (by decide)) e18⟩
/-- a new glass -/
theorem RC_new {X G : oV} (h331 : 331 ≤ c.1) (h20 : (c.1 - 331) % 20 = 0) (hgv : g = 2 ∨ g = 43) (hG : GW G) (tb : ∀ i : Int, 0 ≤ i → i < 1000 → V 0 0 i = X 5 i ∧ -128 ≤ X 5 i ∧ X 5 i ≤ 127) (b1 : V 0 1 0 = 0) (b2 : V 0 2 0 = (g : Int)) (b3 : V 0 3 0 = ((45 - g : Nat) : Int)) (b14 : V 0 14 0 = 0) (b15 : V 0 15 0 = 0) (b84 : V 84 9 0 = 0) (bgr : GR V g G) (b85 : ∃ T, V 85 = wBg G T) (b99 : 0 ≤ V 99 2 0 ∧ V 99 2 0 < 16) (b993 : V 99 3 0 = 0) (b994 : V 99 4 0 = 0) (b279 : V 279 3 0 = 0) (bpt : PT G (V 299 2 0) (V 299 1))
    (x1 : X 1 0 = 0) (x2 : X 2 0 = -1) (x3 : X 3 0 = (c.1 : Int)) (x6 : X 6 0 = 0) (x14 : X 14 0 = 0) (x21 : X 21 0 = 0) (x22 : X 22 0 = 0) (xv : ∀ p : Int, 0 ≤ p → p < 7 → X 18 p = G 9 p ∧ X 18 (7 + p) = G 10 p ∧ X 18 (14 + p) = G 13 p) (xw : ∀ k : Int, 21 ≤ k → k < 59 → X 18 k = 0) : RC (cN c) (MR V c.1 X G) := by
  have r5 : c.1 ≠ 305 := by omega
  have lo : ∀ a, a < 305 → MR V c.1 X G a = V a := fun a ha => MR_o (by omega) (by omega)
  have h4 := hG.2.2.2.2.1
  obtain ⟨T, hT⟩ := b85
  have hw := wBg_k (G := G) (T := T)
  rw [← hT] at hw
  obtain ⟨w3, w7, wp⟩ := hw
  have v21 := xw 21 (by omega) (by omega)
  have v58 := xw 58 (by omega) (by omega)
  refine ⟨cN_331 h331, cN_20 h331 h20, g, ⟨hgv, by rw [lo 0 (by decide)]; exact b2, by rw [lo 0 (by decide)]; exact b3⟩, ?_, ?_, Or.inr ⟨c.1, ⟨by rw [MR_5]; exact x3, ?_, r5⟩, h331, ?_⟩⟩
  · unfold TPE
    rw [MR_5, lo 0 (by decide), lo 84 (by decide)]
    exact ⟨by omega, by omega, tb, by omega⟩
  · unfold TRB
    rw [MR_5, lo 0 (by decide), x1, x2, if_neg (by decide)]
    exact ⟨b15, rfl⟩
  · unfold mcl
    rw [if_neg (by omega), if_pos ⟨h20, Nat.le_refl _⟩]
  · rw [MR_5, MR_r r5]
    refine ⟨⟨hG, GR_ext bgr (lo g (by omega)) (fun p hp => lo _ (by omega)) h4.2, ?_, ?_, ?_, ?_⟩, Or.inl ?_, Or.inl ?_⟩
    · unfold WR
      rw [lo 85 (by decide), v21, v58]
      refine ⟨fun p p0 p1 => ?_, w3, fun k k0 k1 => by omega, w7⟩
      obtain ⟨u1, u2, u3⟩ := wp p p0 p1
      obtain ⟨y1, y2, y3⟩ := xv p p0 (by omega)
      exact ⟨u1.trans y1.symm, u2.trans y2.symm, u3.trans y3.symm⟩
    · unfold VW
      rw [v21, v58]
      refine ⟨fun p p0 p1 => ?_, by omega, by omega, fun k k0 k1 => by omega⟩
      obtain ⟨y1, y2, y3⟩ := xv p p0 (by omega)
      obtain ⟨z1, z2, -, z4, -⟩ := hG.2.2.2.2.2.2.2.2.1 p p0 p1
      rw [y1, y2, y3]
      exact ⟨z1, z2, z4⟩
    · unfold MEMO
      rw [lo 99 (by decide), x21, x22]
      exact ⟨b99, b993, by omega, b994, by omega, fun i i0 i1 => by omega, fun i i0 i1 => by omega⟩
    · rw [lo 299 (by decide)]; exact bpt
    · rw [lo 0 (by decide)]; exact b14
    · rw [lo 279 (by decide)]; exact b279
theorem ca_89 {N : Int} (h : RC c V) : GC c V 89 204 [vI N] := by
  obtain ⟨c1, c2, g, hP, ⟨⟨t1, t2⟩, t3, t4, t5⟩, htr, hz⟩ := id h
  obtain ⟨P, hPp⟩ : ∃ P, P = prA (V 305 5) N (N.toNat + 1) zG (0, 0) := ⟨_, rfl⟩
  obtain ⟨F, hF⟩ : ∃ F, F = prF (V 305 5) N P := ⟨_, rfl⟩
  have hgv := hP.1
  refine CC_le (cc_89 (t := V 305 5) (N := N) (P := P) (F := F) hP.1 hP.2.1 hP.2.2 ⟨by omega, by omega⟩ t4 hPp hF (fun hc => ⟨-1, rfl, ?_⟩) (fun hc hf W wo w0 w1 w15 w9 w10 => ⟨-1, rfl, ?_⟩) (fun hc hf W wo w00 w1 w2 w3 w14 w15 w9 wgr w85 w992 w993 w994 w279 wpt => ⟨_, rfl, ?_⟩)) (by decide)
  · have e5 : sM V 0 15 (fun _ => (2 : Int)) 305 = V 305 := sM_o (by decide)
    refine CC_le (cc_204 (P := P) (F := F) c1 c2 (by rw [e5]; exact ⟨t1, t2⟩) (fun i i0 i1 => by rw [e5]; exact (t4 i i0 i1).2) (by rw [e5]; exact hPp) (by rw [e5]; exact hF) (fun _ => ⟨rfl, cLE_rf, ?_⟩) (fun q => absurd (by rw [e5] at q; omega) hc) (fun q => absurd (by rw [e5] at q; omega) hc)) (by decide)
    have em : sM (sM (sM (sM V 0 15 (fun _ => (2 : Int))) 305 0 (fun _ => 0)) 305 1 (fun _ => 2)) 305 2 (fun _ => -1) = sO (sM V 0 15 (fun _ => (2 : Int))) 305 (sF (sF (sF (V 305) 0 (fun _ => 0)) 1 (fun _ => 2)) 2 (fun _ => -1)) := by
      simp only [sM, sO_sO, sO_at]
      rw [sO_ne (show (305 : Nat) ≠ 0 by decide)]
    rw [em]
    have hs : SC V (sM V 0 15 (fun _ => (2 : Int))) := SC.rf.s0 (by decide)
    have ha : AQ (V 305) (sF (sF (sF (V 305) 0 (fun _ => 0)) 1 (fun _ => 2)) 2 (fun _ => -1)) := ((AQ.rf.wf (by omega)).wf (by omega)).wf (by omega)
    have a1 : sF (sF (sF (V 305) 0 (fun _ => 0)) 1 (fun _ => 2)) 2 (fun _ => -1) 1 0 = (2 : Int) := by rw [sF_ne (by decide), sF_at]
    have a2 : sF (sF (sF (V 305) 0 (fun _ => 0)) 1 (fun _ => 2)) 2 (fun _ => -1) 2 0 = (-1 : Int) := by rw [sF_at]
    rcases hz with ⟨hz, hn⟩ | ⟨m, hmg, hm3, hgl⟩
    · exact RC_n h hP hz (NG_15 hn hgv) hs (by rw [sM_at]) ha a1 a2 (by decide)
    · exact RC_q h hP hmg hgl hm3 hs (CDy_eq hgl.2.1 (sM_o (by decide)) (sM_o (by decide)) (sM_k (by decide)) rfl) (CX_eq hgl.2.2 (sM_o (by decide)) rfl) (by rw [sM_at]) ha a1 a2 (by decide)
  · have e5 : W 305 = V 305 := wo 305 (by decide) (by decide) (by omega)
    refine CC_le (cc_204 (P := P) (F := F) c1 c2 (by rw [e5]; exact ⟨t1, t2⟩) (fun i i0 i1 => by rw [e5]; exact (t4 i i0 i1).2) (by rw [e5]; exact hPp) (by rw [e5]; exact hF) (fun q => absurd (by rw [e5]; omega) q) (fun _ _ X Z xk x1 x2 x6 x14 => ⟨rfl, cN_le, ?_⟩) (fun _ q => absurd q hf)) (by decide)
    rw [e5] at xk
    have r5 : c.1 ≠ 305 := by omega
    have lo : ∀ a, a < 305 → MR W c.1 X Z a = W a := fun a ha => MR_o (by omega) (by omega)
    refine RC_flt c1 c2 hP hz (fun a a0 a1 a2 a3 a4 => ?_) (fun k k1 k2 => ?_) (fun k hk => ?_) ?_ ?_
    · rw [MR_o a2 (by omega)]
      exact wo a a0 a1 a3
    · rw [lo 0 (by decide)]
      exact w0 k k1 k2
    · rw [MR_5]
      exact xk k hk
    · unfold TPE
      rw [MR_5, lo 0 (by decide), lo 84 (by decide), xk 5 (by omega), w0 0 (by decide) (by decide)]
      exact ⟨by omega, by omega, t4, by omega⟩
    · unfold TRB
      rw [MR_5, lo 0 (by decide), lo 84 (by decide), x1, x2, if_pos rfl]
      exact ⟨w15, w10.symm⟩
  · have e5 : W 305 = V 305 := wo 305 (by decide)
    have hGW : GW P.1 := by
      rw [hPp]
      refine GW_pr hc.1 ?_
      rw [← hPp, ← hF]
      exact hf
    have k2 : 0 ≤ V 99 2 0 ∧ V 99 2 0 < 16 := by
      rcases hz with ⟨-, hn⟩ | ⟨m, -, -, hgl⟩
      · exact hn.2.2.2.1
      · exact hgl.1.2.2.2.2.1.1
    refine CC_le (cc_204 (P := P) (F := F) c1 c2 (by rw [e5]; exact ⟨t1, t2⟩) (fun i i0 i1 => by rw [e5]; exact (t4 i i0 i1).2) (by rw [e5]; exact hPp) (by rw [e5]; exact hF) (fun q => absurd (by rw [e5]; omega) q) (fun _ q => absurd hf q) (fun _ _ X x5 x1 x2 x3 x6 x14 x21 x22 xv xw => ⟨rfl, cN_le, ?_⟩)) (by decide)
    refine RC_new (g := 45 - g) c1 c2 (by omega) hGW (fun i i0 i1 => ?_) w1 w2 (by rw [w3]; omega) w14 w15 w9 wgr ⟨_, w85⟩ (by rw [w992]; exact k2) w993 w994 w279 wpt x1 x2 x3 x6 x14 x21 x22 xv xw
    rw [w00, x5, e5]
    exact t4 i i0 i1
end GCL2
