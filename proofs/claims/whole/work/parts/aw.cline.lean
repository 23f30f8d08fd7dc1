/-! THE CLASS'S READER: the draft; glass -/
/-- what a reading may change: the reader, the draft and its people -/
def DF (g : Nat) (V W : Mem) : Prop := (∀ a : Nat, a ≠ 84 → a < g ∨ g + 41 ≤ a → W a = V a) ∧ F7 (V 84) (W 84)
theorem DF.rf {g : Nat} {V : Mem} : DF g V V := ⟨fun _ _ _ => rfl, fun _ _ => rfl⟩
theorem DF.tr {g : Nat} {V W U : Mem} (a : DF g V W) (b : DF g W U) : DF g V U := ⟨fun k h1 h2 => (b.1 k h1 h2).trans (a.1 k h1 h2), a.2.tr b.2⟩
theorem DF_x {g : Nat} {V : Mem} {X : oV} (h : F7 (V 84) X) : DF g V (sO V 84 X) := ⟨fun a h1 _ => sO_ne h1, by rw [sO_at]; exact h⟩
theorem DF_m {g o k : Nat} {V W : Mem} {f : Int → Int} (h : DF g V W) (hg : g = 2 ∨ g = 43) (h1 : g ≤ o) (h2 : o < g + 41) : DF g V (sM W o k f) := by
  refine ⟨fun a a1 a2 => ?_, ?_⟩
  · rw [sM, sO_ne (by omega)]; exact h.1 a a1 a2
  · rw [sM, sO_ne (by omega)]; exact h.2
theorem DF.tx {g : Nat} {V W : Mem} {t : Int → Int} {N : Int} (h : DF g V W) (hg : g = 2 ∨ g = 43) (ht : TX t N (V 0 0)) : TX t N (W 0 0) := by rw [h.1 0 (by decide) (by omega)]; exact ht
/-- the draft is the glass told so far -/
def DRA (t : Int → Int) (N : Int) (V : Mem) (g : Nat) (G : oV) : Prop := (V g 0 0 = G 0 0 ∧ V g 1 0 = G 1 0 ∧ V g 2 0 = G 2 0 ∧ V g 3 0 = G 3 0 ∧ V g 4 0 = G 4 0 ∧ V g 6 0 = G 5 0 ∧ V g 10 0 = G 6 0 ∧ V g 13 0 = G 7 0)
  ∧ (∀ k, 0 ≤ k → k < G 5 0 → V g 7 k = G 19 k ∧ V g 8 k = G 20 k ∧ V g 9 k = G 21 k)
  ∧ (∀ s, 0 ≤ s → s < G 6 0 → V g 11 s = G 22 s ∧ ∀ k, 0 ≤ k → k < G 1 0 → V g 12 (8 * s + k) = G 23 (8 * s + k))
  ∧ (∀ s, 0 ≤ s → s < G 7 0 → V g 14 s = G 24 s ∧ V g 15 s = G 25 s ∧ V g 16 s = G 26 s)
  ∧ (∀ p : Int, 0 ≤ p → p < G 4 0 → V (g + 13 + 4 * p.toNat) 2 0 = G 9 p ∧ V (g + 13 + 4 * p.toNat) 3 0 = G 10 p ∧ V (g + 13 + 4 * p.toNat) 4 0 = G 11 p ∧ V (g + 13 + 4 * p.toNat) 6 0 = G 13 p ∧ V (g + 13 + 4 * p.toNat) 7 0 = G 14 p ∧ V (g + 13 + 4 * p.toNat) 8 0 = G 18 p ∧ V (g + 13 + 4 * p.toNat) 9 0 = G 15 p)
  ∧ (∀ p i : Int, 0 ≤ p → p < G 4 0 → 0 ≤ i → i < G 11 p → V (g + 13 + 4 * p.toNat) 5 i = G 12 (6 * p + i))
  ∧ (∀ p i : Int, 0 ≤ p → p < G 4 0 → 0 ≤ i → i < G 15 p → V (g + 13 + 4 * p.toNat) 10 i = G 16 (3 * p + i) ∧ V (g + 13 + 4 * p.toNat) 11 i = G 17 (3 * p + i))
  ∧ (∀ d, 0 ≤ d → d < 30 → V g 17 d = bset 7 (fun p => decide (p < G 4 0) && hereB G p d) ∧ V g 18 d = bset 7 (fun p => decide (p < G 4 0) && comesB G p d) ∧ V g 19 d = bset 7 (fun p => decide (p < G 4 0) && goesB G p d))
  ∧ NM t N V g G
section CLN
variable {c : cT} {V : Mem} {g n n' dd : Nat} {G : oV} {L : gLo} {Q : gEx → gLo → cT → Mem → Prop} {R : Option gAV → cT → Mem → Prop} {t : Int → Int} {N q : Int}
theorem DRA_GR (h : DRA t N V g G) (hG : G 0 0 ≤ 30) : GR V g G := by
  obtain ⟨h1, h2, h3, h4, h5, h6, h7, h8, -⟩ := h
  exact ⟨h1, h2, h3, h4, h5, h6, h7, fun d d0 d1 => h8 d d0 (by omega)⟩
theorem rd_ov {s : Int × Int} {lo hi : Int} (h : s.1 ≠ 0) : rdS t N s lo hi = s := by
  unfold rdS bnS flw gOn
  simp [h]
theorem nd_ov {s : Int × Int} {w : Int} (h : s.1 ≠ 0) : nds t N s w = s := by
  unfold nds flw gOn
  split <;> simp [h]
/-- word(i) and whole(lo, hi), or false -/
theorem cl_ww {i : Nat} {lo hi : Int} (hi' : i < 51) (hn : nB ≤ n') (hd : 7 ≤ dd) (hl : L[0]? = some (some (vR (some 84)))) (ht : TX t N (V 0 0)) (hc : CT t N (V 84) q)
    (hq0 : ∀ X, FK (V 84) X → CS t N X (rdS t N (nds t N (0, q) (wK i)) lo hi) → (rdS t N (nds t N (0, q) (wK i)) lo hi).1 ≠ 0 → Q (some (3, some (vB false))) L c (sO V 84 X))
    (hq1 : ∀ X, FK (V 84) X → CT t N X (rdS t N (nds t N (0, q) (wK i)) lo hi).2 → (rdS t N (nds t N (0, q) (wK i)) lo hi).1 = 0 → X 6 0 = bnV t N (nds t N (0, q) (wK i)) lo hi → Q none L c (sO V 84 X)) :
    WW (ifS (orC (notC (cB (gOr n' dd) 66 (aCR (lR 0) (aCS (kS i) (a0))))) (notC (cB (gOr n' dd) 67 (aCR (lR 0) (aCI (kI lo) (aCI (kI hi) (a0))))))) (rtB (kB false)) skS) n L c V Q := by
  refine WW_ifE (EE_or (EE_not (EE_cB (PE_aCR (PE_lR hl) (PE_aCS PE_kS PE_a0)) hn (cc_66 hi' ht hc fun X hf hX => ⟨_, rfl, fun hb => ?_, fun hb => ?_⟩) hd)))
  · have h1 : (nds t N (0, q) (wK i)).1 ≠ 0 := by simpa using hb
    refine ⟨fun _ => WW_rtB PE_kB (hq0 X hf ?_ ?_), fun z => by cases z⟩
    · rw [rd_ov h1]; exact hX
    · rw [rd_ov h1]; exact h1
  · have h1 : (nds t N (0, q) (wK i)).1 = 0 := by simpa using hb
    have e : nds t N (0, q) (wK i) = (0, (nds t N (0, q) (wK i)).2) := Prod.ext h1 rfl
    rw [e] at hq0 hq1
    refine EE_not (EE_cB (PE_aCR (PE_lR hl) (PE_aCI PE_kI (PE_aCI PE_kI PE_a0))) hn (cc_67 (t := t) (N := N) (q := (nds t N (0, q) (wK i)).2) (by rw [sO_ne (by decide)]; exact ht) (by rw [sO_at]; exact hX.1 h1) fun X2 hf2 hX2 h6 => ⟨_, rfl, fun hb2 => ?_, fun hb2 => ?_⟩) (by omega))
    · have h2 : (rdS t N (0, (nds t N (0, q) (wK i)).2) lo hi).1 ≠ 0 := by simpa using hb2
      rw [sO_sO]
      rw [sO_at] at hf2
      exact WW_rtB PE_kB (hq0 X2 (hf.tr hf2) hX2 h2)
    · have h2 : (rdS t N (0, (nds t N (0, q) (wK i)).2) lo hi).1 = 0 := by simpa using hb2
      rw [sO_sO]
      rw [sO_at] at hf2
      exact WW_sk (hq1 X2 (hf.tr hf2) (hX2.1 h2) h2 (by rw [h6 h2]; exact (rdS_k h2).2.2.2.2.symm))
/-- word(i), whole(lo, hi), and the number into the draft's field k -/
theorem cl_wk {i k : Nat} {lo hi : Int} {b : gSt} (hi' : i < 51) (hk : (tab 4)[k]? = some (0, 0, 0)) (hg2 : g = 2 ∨ g = 43) (hg : mcl c.1 g = some 4) (h8 : V 84 8 0 = (g : Int)) (hn : nB ≤ n') (hd : 7 ≤ dd) (hl : L[0]? = some (some (vR (some 84)))) (ht : TX t N (V 0 0)) (hc : CT t N (V 84) q)
    (hq0 : ∀ W, DF g V W → CS t N (W 84) (rdS t N (nds t N (0, q) (wK i)) lo hi) → (rdS t N (nds t N (0, q) (wK i)) lo hi).1 ≠ 0 → Q (some (3, some (vB false))) L c W)
    (hq1 : ∀ W, DF g V W → CT t N (W 84) (rdS t N (nds t N (0, q) (wK i)) lo hi).2 → (rdS t N (nds t N (0, q) (wK i)) lo hi).1 = 0 → W g k 0 = bnV t N (nds t N (0, q) (wK i)) lo hi → (∀ j, j ≠ k → W g j = V g j) → (∀ a, a ≠ 84 → a ≠ g → W a = V a) → WW b n L c W Q) :
    WW (seS (ifS (orC (notC (cB (gOr n' dd) 66 (aCR (lR 0) (aCS (kS i) (a0))))) (notC (cB (gOr n' dd) 67 (aCR (lR 0) (aCI (kI lo) (aCI (kI hi) (a0))))))) (rtB (kB false)) skS) (seS (pfI 4 k (fR 9 8 (lR 0)) (fI 9 6 (lR 0))) b)) n L c V Q := by
  have g84 : g ≠ 84 := by omega
  refine WW_se (cl_ww hi' hn hd hl ht hc (fun X hf hX h0 => SQ_s (hq0 _ (DF_x hf.f7) (by rw [sO_at]; exact hX) h0)) (fun X hf hX h0 h6 => SQ_n ?_))
  refine WW_se (WW_pf hk (PE_fP rfl (PE_lR hl) k_84 (by rw [sO_at, hf 8 (by omega)]; exact h8)) hg (cl_f (k := 6) hl rfl) (SQ_n ?_))
  refine hq1 _ (DF_m (DF_x hf.f7) hg2 (by omega) (by omega)) ?_ h0 ?_ ?_ ?_
  · rw [sM, sO_ne (Ne.symm g84), sO_at]; exact hX
  · rw [sM, sO_at, sF_at]; exact h6
  · intro j hj
    rw [sM, sO_at, sF_ne hj, sO_ne g84]
  · intro a a1 a2
    rw [sM, sO_ne a2, sO_ne a1]
theorem cc_71 {s : Int × Int} (hg2 : g = 2 ∨ g = 43) (hg : mcl c.1 g = some 4) (h8 : V 84 8 0 = (g : Int)) (ht : TX t N (V 0 0)) (hc : CT t N (V 84) q) (hD : DRA t N V g G) (hz : G 4 0 = 0 ∧ G 5 0 = 0 ∧ G 6 0 = 0 ∧ G 7 0 = 0) (e : gA t N G s = (0, q)) (hq : ∀ W, DF g V W → CS t N (W 84) (gA4 t N G s) → ((gA4 t N G s).1 = 0 → DRA t N W g (gZg t N G s)) → R (some (vB (decide ((gA4 t N G s).1 = 0)))) c W) : CC 8 71 [vR (some 84)] c V R := by
  obtain ⟨-, ⟨w6, w7, w8, w9⟩, -⟩ := wK_e
  have e1 : gA1 t N G s = rdS t N (nds t N (0, q) (wK 6)) 2 30 := by unfold gA1; rw [e, w6]
  have f4 : (gA4 t N G s).1 ≠ 0 → ∀ W, DF g V W → CS t N (W 84) (gA4 t N G s) → R (some (vB false)) c W := fun z W hW hC => by
    have := hq W hW hC (fun y => absurd y z)
    rwa [decide_eq_false z] at this
  refine CC_of mt_71 gb_71 (by decide) (by decide) (rcb_o k_84) (Nat.le_of_ble_eq_true rfl) fun n dd hn hd => ?_
  show WW (bX9_glassLine (gOr n dd)) n [some (vR (some (84)))] _ _ _
  unfold bX9_glassLine
  have hn0 : 1000000000 ≤ n := hn
  refine cl_wk (i := 6) (lo := 2) (hi := 30) (by decide) rfl hg2 hg h8 hn (by omega) rfl ht hc (fun W hW hC h0 => ?_) (fun W1 d1 c1 o1 v1 k1 a1 => ?_)
  · rw [← e1] at hC h0
    have x2 : gA2 t N G s = gA1 t N G s := by unfold gA2; rw [nd_ov h0, rd_ov h0]
    have x3 : gA3 t N G s = gA1 t N G s := by unfold gA3; rw [x2, nd_ov h0, rd_ov h0]
    have x4 : gA4 t N G s = gA1 t N G s := by unfold gA4; rw [x3, nd_ov h0, rd_ov h0]
    exact ⟨_, rfl, rfl, f4 (by rw [x4]; exact h0) W hW (by rw [x4]; exact hC)⟩
  rw [← e1] at c1 o1
  have s1 : gA1 t N G s = (0, (gA1 t N G s).2) := Prod.ext o1 rfl
  have e2 : gA2 t N G s = rdS t N (nds t N (0, (gA1 t N G s).2) (wK 7)) 2 8 := by unfold gA2; rw [← s1, w7]
  refine cl_wk (i := 7) (lo := 2) (hi := 8) (by decide) rfl hg2 hg (by rw [d1.2 8 (by omega)]; exact h8) hn (by omega) rfl (d1.tx hg2 ht) c1 (fun W hW hC h0 => ?_) (fun W2 d2 c2 o2 v2 k2 a2 => ?_)
  · rw [← e2] at hC h0
    have x3 : gA3 t N G s = gA2 t N G s := by unfold gA3; rw [nd_ov h0, rd_ov h0]
    have x4 : gA4 t N G s = gA2 t N G s := by unfold gA4; rw [x3, nd_ov h0, rd_ov h0]
    exact ⟨_, rfl, rfl, f4 (by rw [x4]; exact h0) W (d1.tr hW) (by rw [x4]; exact hC)⟩
  rw [← e2] at c2 o2
  have s2 : gA2 t N G s = (0, (gA2 t N G s).2) := Prod.ext o2 rfl
  have e3 : gA3 t N G s = rdS t N (nds t N (0, (gA2 t N G s).2) (wK 8)) 1 6 := by unfold gA3; rw [← s2, w8]
  have d12 := d1.tr d2
  refine cl_wk (i := 8) (lo := 1) (hi := 6) (by decide) rfl hg2 hg (by rw [d12.2 8 (by omega)]; exact h8) hn (by omega) rfl (d12.tx hg2 ht) c2 (fun W hW hC h0 => ?_) (fun W3 d3 c3 o3 v3 k3 a3 => ?_)
  · rw [← e3] at hC h0
    have x4 : gA4 t N G s = gA3 t N G s := by unfold gA4; rw [nd_ov h0, rd_ov h0]
    exact ⟨_, rfl, rfl, f4 (by rw [x4]; exact h0) W (d12.tr hW) (by rw [x4]; exact hC)⟩
  rw [← e3] at c3 o3
  have s3 : gA3 t N G s = (0, (gA3 t N G s).2) := Prod.ext o3 rfl
  have e4 : gA4 t N G s = rdS t N (nds t N (0, (gA3 t N G s).2) (wK 9)) 0 100 := by unfold gA4; rw [← s3, w9]
  have d13 := d12.tr d3
  refine cl_wk (i := 9) (lo := 0) (hi := 100) (by decide) rfl hg2 hg (by rw [d13.2 8 (by omega)]; exact h8) hn (by omega) rfl (d13.tx hg2 ht) c3 (fun W hW hC h0 => ?_) (fun W4 d4 c4 o4 v4 k4 a4 => ?_)
  · rw [← e4] at hC h0
    exact ⟨_, rfl, rfl, f4 h0 W (d13.tr hW) hC⟩
  rw [← e4] at c4 o4
  refine WW_rtB PE_kB ⟨_, rfl, rfl, ?_⟩
  have := hq W4 (d13.tr d4) ⟨fun _ => c4, fun z => absurd o4 z⟩ (fun _ => ?_)
  · rwa [decide_eq_true o4] at this
  obtain ⟨⟨h0, h1, h2, h3, h4, h5, h6, h7⟩, -, -, -, -, -, -, hh, -⟩ := hD
  have ko : ∀ j : Nat, 4 ≤ j → W4 g j = V g j := fun j hj => by rw [k4 j (by omega), k3 j (by omega), k2 j (by omega), k1 j (by omega)]
  have z4 : gZg t N G s 4 0 = G 4 0 := rfl
  have z5 : gZg t N G s 5 0 = G 5 0 := rfl
  have z6 : gZg t N G s 6 0 = G 6 0 := rfl
  have z7 : gZg t N G s 7 0 = G 7 0 := rfl
  refine ⟨⟨?_, ?_, ?_, ?_, ?_, ?_, ?_, ?_⟩, ?_, ?_, ?_, ?_, ?_, ?_, ?_, ?_⟩
  · rw [k4 0 (by decide), k3 0 (by decide), k2 0 (by decide), v1, w6, ← e]; rfl
  · rw [k4 1 (by decide), k3 1 (by decide), v2, w7, ← s1]; rfl
  · rw [k4 2 (by decide), v3, w8, ← s2]; rfl
  · rw [v4, w9, ← s3]; rfl
  · rw [ko 4 (by decide), z4]; exact h4
  · rw [ko 6 (by decide), z5]; exact h5
  · rw [ko 10 (by decide), z6]; exact h6
  · rw [ko 13 (by decide), z7]; exact h7
  · intro k k0 kk; rw [z5, hz.2.1] at kk; omega
  · intro k k0 kk; rw [z6, hz.2.2.1] at kk; omega
  · intro k k0 kk; rw [z7, hz.2.2.2] at kk; omega
  · intro k k0 kk; rw [z4, hz.1] at kk; omega
  · intro k i k0 kk; rw [z4, hz.1] at kk; omega
  · intro k i k0 kk; rw [z4, hz.1] at kk; omega
  · intro d d0 dd'
    rw [ko 17 (by decide), ko 18 (by decide), ko 19 (by decide)]
    exact hh d d0 dd'
  · intro k k0 kk; rw [z4, hz.1] at kk; omega
end CLN
