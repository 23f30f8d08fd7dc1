/-! ACTS: calls -/
theorem seed_VE {G S T : oV} {x : Int} (h12 : S 18 21 ≤ 12) (h4 : G 4 0 ≤ 7) : VE G (gUz (S 18) 58 x) T ↔ VE G (S 18) T := by
  have e : ∀ i : Int, i ≠ 58 → gUz (S 18) 58 x i = S 18 i := fun i hi => gUz_ne hi
  unfold VE
  rw [e 21 (by omega)]
  constructor
  · rintro ⟨h1, h2, h3⟩
    refine ⟨fun p p0 p1 => ?_, h2, fun k k0 k1 => ?_⟩
    · have := h1 p p0 p1
      rwa [e _ (by omega), e _ (by omega), e _ (by omega)] at this
    · have := h3 k k0 k1
      rwa [e _ (by omega), e _ (by omega), e _ (by omega)] at this
  · rintro ⟨h1, h2, h3⟩
    refine ⟨fun p p0 p1 => ?_, h2, fun k k0 k1 => ?_⟩
    · rw [e _ (by omega), e _ (by omega), e _ (by omega)]
      exact h1 p p0 p1
    · rw [e _ (by omega), e _ (by omega), e _ (by omega)]
      exact h3 k k0 k1
section CAA
variable {c : cT} {V V1 V2 : Mem} {g m : Nat} {S' : oV}
theorem gl_cst {S G : oV} (h : GL0 V S G g) : CST V S G := ⟨h.2.2.1, h.2.2.2.1, h.2.2.2.2.1⟩
/-- all but what acts change stays -/
theorem RC_act {S1 : oV} (h : RC c V) (hP : gP V g) (hm : mG c V m) (hm3 : 331 ≤ m) (hgl : GL V (V 305) (V m) g) (h0 : ∀ k, k < 14 → V1 0 k = V 0 k) (ho : ∀ a, a ≠ 0 → a < 85 ∨ (92 ≤ a ∧ a < 99) ∨ a = 299 ∨ 305 ≤ a → V1 a = V a) (h15 : V1 0 15 0 = 0) (hC : CST V1 S1 (V m)) (hd : CDy V1 S1 (V m)) (hx : CX V1 S1 (V m)) (hk : ∀ k, 3 ≤ k → k ≤ 17 → S1 k = V 305 k) (hV : AMQ V1 V2 S1) : RC c V2 := by
  obtain ⟨a1, a2, a3, a4⟩ := hV
  obtain ⟨c1, c2, g', hg', htp, htr, -⟩ := h
  have hgv := hP.1
  have hlt : ∀ a, a < 305 → V2 a = V1 a := fun a ha => a1 a (by omega)
  have e0 : ∀ k, k < 14 → V2 0 k = V 0 k := fun k hk => by rw [hlt 0 (by omega)]; exact h0 k hk
  have e84 : V2 84 = V 84 := by rw [hlt 84 (by omega)]; exact ho 84 (by omega) (by omega)
  have em : V2 m = V m := by rw [a1 m (by omega)]; exact ho m (by omega) (by omega)
  have t : ∀ k, 3 ≤ k → k ≤ 17 → V2 305 k = V 305 k := fun k k0 k1 => (a2 k k0 (by omega)).trans (hk k k0 k1)
  have e18 := a2 18 (by omega) (by omega)
  obtain ⟨⟨l1, l2, l3, l4, l5, l6⟩, -, -⟩ := hgl
  refine ⟨c1, c2, g, ⟨hP.1, by rw [e0 2 (by omega)]; exact hP.2.1, by rw [e0 3 (by omega)]; exact hP.2.2⟩, ?_, ?_, Or.inr ⟨m, ⟨by rw [t 3 (by omega) (by omega)]; exact hm.1, hm.2⟩, hm3, ?_⟩⟩
  · obtain ⟨t1, t2, t3, t4⟩ := htp
    unfold TPE
    rw [e0 0 (by omega), e0 1 (by omega), e84, t 5 (by omega) (by omega), t 6 (by omega) (by omega), t 14 (by omega) (by omega)]
    exact ⟨t1, t2, t3, t4⟩
  · unfold TRB
    rw [a3, a4]
    exact ⟨by rw [hlt 0 (by omega)]; exact h15, by rw [if_neg (by decide)]⟩
  · rw [em]
    obtain ⟨hw, hvw, hme⟩ := hC
    refine ⟨⟨l1, GR_ext l2 (by rw [hlt g (by omega)]; exact ho g (by omega) (by omega)) (fun p hp => by rw [hlt _ (by omega)]; exact ho _ (by omega) (by omega)) l1.2.2.2.2.1.2, by rw [e18]; exact WR_ext hw (hlt 85 (by omega)), by rw [e18]; exact hvw, MEMO_ext hme (fun a a0 a1 => hlt a (by omega)) (fun k k0 k1 => a2 k (by omega) k1), ?_⟩, CDy_eq hd (hlt _ (by omega)) (hlt _ (by omega)) (by rw [hlt 0 (by omega)]) e18, CX_eq hx (hlt _ (by omega)) e18⟩
    rw [hlt 299 (by omega), ho 299 (by omega) (by omega)]
    exact l6
theorem fin_act {S1 : oV} (h : RC c V) (hP : gP V g) (hm : mG c V m) (hm3 : 331 ≤ m) (hgl : GL V (V 305) (V m) g) (hA : ACT V V1) (hC : CST V1 S1 (V m)) (hk : ∀ k, 3 ≤ k → k ≤ 17 → S1 k = V 305 k) (hV : AMQ V1 V2 S1) : RC c V2 := RC_act h hP hm hm3 hgl hA.2.1 (fun a a0 ha => hA.1 a a0 (by omega)) hA.2.2.2.1 hC (Or.inl hA.2.2.1) (Or.inl hA.2.2.2.2) hk hV
theorem kk {S : oV} {k : Nat} (h0 : 3 ≤ k) (h1 : k ≤ 17) : keepF S k = S k := keepF_o (by omega) (by omega)
end CAA
section CAB
variable {c : cT} {V : Mem}
theorem ca_131 {d x y : Int} (h : RC c V) : GC c V 131 288 [vI d, vI x, vI y] := by
  obtain ⟨c1, c2, g, hP, htp, htr, ⟨hz, hn⟩ | ⟨m, hm, hm3, hgl⟩⟩ := id h
  · have e1 : V g 1 0 = 0 := hn.1.2.1
    refine CC_le (qc_131 (S := V 305) (G := V 305) hP (fun q => by omega) (fun q => by omega) (fun _ => ⟨_, rfl, ?_⟩) (fun q => by omega) (fun q => by omega)) (by decide)
    exact CC_le (qz_288 (by rw [sM_o (by decide)]; exact hz) (fun V2 hV => ⟨rfl, cLE_rf, fin_n h hP hz hn hV rfl (by decide)⟩)) (by decide)
  · obtain ⟨z0, z1, z4, e0, e1, e4⟩ := GL_sz hgl.1
    have hC := gl_cst hgl.1
    have hG := hgl.1.1
    obtain ⟨k1, k2, k3, k4, k5, k6, k7⟩ := hgl.1.2.2.2.2.1
    have em15 : ∀ t : Int, sM V 0 15 (fun _ => t) m = V m := fun t => sM_o (by omega)
    have e515 : ∀ t : Int, sM V 0 15 (fun _ => t) 305 = V 305 := fun t => sM_o (by decide)
    have hm15 : ∀ t : Int, mG c (sM V 0 15 (fun _ => t)) m := fun t => ⟨by rw [e515]; exact hm.1, hm.2⟩
    have hvv := hC.2.1.2.1
    refine CC_le (qc_131 (S := V 305) (G := V m) hP (fun _ => ⟨hG, hC, e0, e1⟩) (fun ha hb h12 V' hA hC1 => ⟨_, rfl, ?_⟩) (fun ha => ⟨_, rfl, ?_⟩) (fun ha hb => ⟨_, rfl, ?_⟩) (fun ha hb h12 => ⟨_, rfl, ?_⟩)) (by decide)
    · have h5 : V' 305 = V 305 := hA.1 305 (by decide) (by omega)
      have hv : V' m = V m := hA.1 m (by omega) (by omega)
      refine CC_le (qm_288 (g := m) ⟨by rw [h5]; exact hm.1, hm.2⟩ (by rw [hv]; exact hG) (by rw [h5]; exact hvv) (by rw [h5]; exact k3) (fun _ _ _ V2 hV => ⟨rfl, cLE_rf, fin_act h hP hm hm3 hgl hA hC1 (fun k k0 k1 => by rw [movF_k (by omega)]; exact kk k0 k1) (by rw [h5] at hV; exact hV)⟩) (fun q => absurd (by rw [hv]; omega) q) (fun _ q => absurd (by rw [hv]; omega) q) (fun _ _ q => absurd (by rw [h5]; exact h12) q)) (by decide)
    · refine CC_le (qm_288 (g := m) (hm15 1) (by rw [em15]; exact hG) (by rw [e515]; exact hvv) (by rw [e515]; exact k3) (fun q => absurd (by rw [em15] at q; omega) ha) (fun _ V2 hV => ⟨rfl, cLE_rf, fin_15 h hP hm hm3 hgl hV rfl (by decide)⟩) (fun q => absurd (by rw [em15] at q; omega) ha) (fun q => absurd (by rw [em15] at q; omega) ha)) (by decide)
    · refine CC_le (qm_288 (g := m) (hm15 2) (by rw [em15]; exact hG) (by rw [e515]; exact hvv) (by rw [e515]; exact k3) (fun _ q => absurd (by rw [em15] at q; omega) hb) (fun q => absurd (by rw [em15]; omega) q) (fun _ _ V2 hV => ⟨rfl, cLE_rf, fin_15 h hP hm hm3 hgl hV rfl (by decide)⟩) (fun _ q => absurd (by rw [em15] at q; omega) hb)) (by decide)
    · refine CC_le (qm_288 (g := m) (hm15 3) (by rw [em15]; exact hG) (by rw [e515]; exact hvv) (by rw [e515]; exact k3) (fun _ _ q => absurd (by rw [e515] at q; exact q) h12) (fun q => absurd (by rw [em15]; omega) q) (fun _ q => absurd (by rw [em15]; omega) q) (fun _ _ _ V2 hV => ⟨rfl, cLE_rf, fin_15 h hP hm hm3 hgl hV rfl (by decide)⟩)) (by decide)
theorem ca_133 {p x : Int} (h : RC c V) : GC c V 133 292 [vI p, vI x] := by
  obtain ⟨c1, c2, g, hP, htp, htr, ⟨hz, hn⟩ | ⟨m, hm, hm3, hgl⟩⟩ := id h
  · have e4 : V g 4 0 = 0 := hn.1.2.2.2.2.1
    refine CC_le (qc_133 (S := V 305) (G := V 305) hP (fun q => by omega) (fun q => by omega) (fun _ => ⟨_, rfl, ?_⟩) (fun q => by omega)) (by decide)
    exact CC_le (qz_292 (by rw [sM_o (by decide)]; exact hz) (fun V2 hV => ⟨rfl, cLE_rf, fin_n h hP hz hn hV rfl (by decide)⟩)) (by decide)
  · obtain ⟨z0, z1, z4, e0, e1, e4⟩ := GL_sz hgl.1
    have hC := gl_cst hgl.1
    have hG := hgl.1.1
    obtain ⟨k1, k2, k3, k4, k5, k6, k7⟩ := hgl.1.2.2.2.2.1
    have em15 : ∀ t : Int, sM V 0 15 (fun _ => t) m = V m := fun t => sM_o (by omega)
    have e515 : ∀ t : Int, sM V 0 15 (fun _ => t) 305 = V 305 := fun t => sM_o (by decide)
    have hm15 : ∀ t : Int, mG c (sM V 0 15 (fun _ => t)) m := fun t => ⟨by rw [e515]; exact hm.1, hm.2⟩
    refine CC_le (qc_133 (S := V 305) (G := V m) hP (fun _ => ⟨hG, hC, e4⟩) (fun ha hb V' hA hC1 => ⟨_, rfl, ?_⟩) (fun ha => ⟨_, rfl, ?_⟩) (fun ha hb => ⟨_, rfl, ?_⟩)) (by decide)
    · have h5 : V' 305 = V 305 := hA.1 305 (by decide) (by omega)
      have hv : V' m = V m := hA.1 m (by omega) (by omega)
      refine CC_le (qm_292 (g := m) ⟨by rw [h5]; exact hm.1, hm.2⟩ (by rw [hv]; exact hG) (by rw [h5]; exact k3) (fun _ _ V2 hV => ⟨rfl, cLE_rf, fin_act h hP hm hm3 hgl hA hC1 (fun k k0 k1 => by rw [chgF_k (by omega)]; exact kk k0 k1) (by rw [h5] at hV; exact hV)⟩) (fun q => absurd (by rw [hv]; omega) q) (fun _ q => absurd (by rw [h5] at q; exact q) hb)) (by decide)
    · refine CC_le (qm_292 (g := m) (hm15 1) (by rw [em15]; exact hG) (by rw [e515]; exact k3) (fun q => absurd (by rw [em15] at q; omega) ha) (fun _ V2 hV => ⟨rfl, cLE_rf, fin_15 h hP hm hm3 hgl hV rfl (by decide)⟩) (fun q => absurd (by rw [em15] at q; omega) ha)) (by decide)
    · refine CC_le (qm_292 (g := m) (hm15 5) (by rw [em15]; exact hG) (by rw [e515]; exact k3) (fun _ q => absurd (by rw [e515]; exact hb) q) (fun q => absurd (by rw [em15]; omega) q) (fun _ _ V2 hV => ⟨rfl, cLE_rf, fin_15 h hP hm hm3 hgl hV rfl (by decide)⟩)) (by decide)
theorem ca_134 {p x : Int} (h : RC c V) : GC c V 134 293 [vI p, vI x] := by
  obtain ⟨c1, c2, g, hP, htp, htr, ⟨hz, hn⟩ | ⟨m, hm, hm3, hgl⟩⟩ := id h
  · have e4 : V g 4 0 = 0 := hn.1.2.2.2.2.1
    refine CC_le (qc_134 (S := V 305) (G := V 305) hP (fun q => by omega) (fun q => by omega) (fun _ => ⟨_, rfl, ?_⟩) (fun q => by omega)) (by decide)
    exact CC_le (qz_293 (by rw [sM_o (by decide)]; exact hz) (fun V2 hV => ⟨rfl, cLE_rf, fin_n h hP hz hn hV rfl (by decide)⟩)) (by decide)
  · obtain ⟨z0, z1, z4, e0, e1, e4⟩ := GL_sz hgl.1
    have hC := gl_cst hgl.1
    have hG := hgl.1.1
    obtain ⟨k1, k2, k3, k4, k5, k6, k7⟩ := hgl.1.2.2.2.2.1
    have em15 : ∀ t : Int, sM V 0 15 (fun _ => t) m = V m := fun t => sM_o (by omega)
    have e515 : ∀ t : Int, sM V 0 15 (fun _ => t) 305 = V 305 := fun t => sM_o (by decide)
    have hm15 : ∀ t : Int, mG c (sM V 0 15 (fun _ => t)) m := fun t => ⟨by rw [e515]; exact hm.1, hm.2⟩
    refine CC_le (qc_134 (S := V 305) (G := V m) hP (fun _ => ⟨hG, hC, e4⟩) (fun ha hb V' hA hC1 => ⟨_, rfl, ?_⟩) (fun ha => ⟨_, rfl, ?_⟩) (fun ha hb => ⟨_, rfl, ?_⟩)) (by decide)
    · have h5 : V' 305 = V 305 := hA.1 305 (by decide) (by omega)
      have hv : V' m = V m := hA.1 m (by omega) (by omega)
      refine CC_le (qm_293 (g := m) ⟨by rw [h5]; exact hm.1, hm.2⟩ (by rw [hv]; exact hG) (by rw [h5]; exact k3) (fun _ _ V2 hV => ⟨rfl, cLE_rf, fin_act h hP hm hm3 hgl hA hC1 (fun k k0 k1 => by rw [chgF_k (by omega)]; exact kk k0 k1) (by rw [h5] at hV; exact hV)⟩) (fun q => absurd (by rw [hv]; omega) q) (fun _ q => absurd (by rw [h5] at q; exact q) hb)) (by decide)
    · refine CC_le (qm_293 (g := m) (hm15 1) (by rw [em15]; exact hG) (by rw [e515]; exact k3) (fun q => absurd (by rw [em15] at q; omega) ha) (fun _ V2 hV => ⟨rfl, cLE_rf, fin_15 h hP hm hm3 hgl hV rfl (by decide)⟩) (fun q => absurd (by rw [em15] at q; omega) ha)) (by decide)
    · refine CC_le (qm_293 (g := m) (hm15 5) (by rw [em15]; exact hG) (by rw [e515]; exact k3) (fun _ q => absurd (by rw [e515]; exact hb) q) (fun q => absurd (by rw [em15]; omega) q) (fun _ _ V2 hV => ⟨rfl, cLE_rf, fin_15 h hP hm hm3 hgl hV rfl (by decide)⟩)) (by decide)
theorem ca_135 {p x : Int} (h : RC c V) : GC c V 135 294 [vI p, vI x] := by
  obtain ⟨c1, c2, g, hP, htp, htr, ⟨hz, hn⟩ | ⟨m, hm, hm3, hgl⟩⟩ := id h
  · have e4 : V g 4 0 = 0 := hn.1.2.2.2.2.1
    refine CC_le (qc_135 (S := V 305) (G := V 305) hP (fun q => by omega) (fun q => by omega) (fun _ => ⟨_, rfl, ?_⟩) (fun q => by omega) (fun q => by omega)) (by decide)
    exact CC_le (qz_294 (by rw [sM_o (by decide)]; exact hz) (fun V2 hV => ⟨rfl, cLE_rf, fin_n h hP hz hn hV rfl (by decide)⟩)) (by decide)
  · obtain ⟨z0, z1, z4, e0, e1, e4⟩ := GL_sz hgl.1
    have hC := gl_cst hgl.1
    have hG := hgl.1.1
    obtain ⟨k1, k2, k3, k4, k5, k6, k7⟩ := hgl.1.2.2.2.2.1
    have em15 : ∀ t : Int, sM V 0 15 (fun _ => t) m = V m := fun t => sM_o (by omega)
    have e515 : ∀ t : Int, sM V 0 15 (fun _ => t) 305 = V 305 := fun t => sM_o (by decide)
    have hm15 : ∀ t : Int, mG c (sM V 0 15 (fun _ => t)) m := fun t => ⟨by rw [e515]; exact hm.1, hm.2⟩
    refine CC_le (qc_135 (S := V 305) (G := V m) hP (fun _ => ⟨hG, hC, e4⟩) (fun ha hx hb V' hA hC1 => ⟨_, rfl, ?_⟩) (fun ha => ⟨_, rfl, ?_⟩) (fun ha hx => ⟨_, rfl, ?_⟩) (fun ha hx hb => ⟨_, rfl, ?_⟩)) (by decide)
    · have h5 : V' 305 = V 305 := hA.1 305 (by decide) (by omega)
      have hv : V' m = V m := hA.1 m (by omega) (by omega)
      refine CC_le (qm_294 (g := m) ⟨by rw [h5]; exact hm.1, hm.2⟩ (by rw [hv]; exact hG) (by rw [h5]; exact k3) (fun _ _ _ V2 hV => ⟨rfl, cLE_rf, fin_act h hP hm hm3 hgl hA hC1 (fun k k0 k1 => by rw [chgF_k (by omega)]; exact kk k0 k1) (by rw [h5] at hV; exact hV)⟩) (fun q => absurd (by rw [hv]; omega) q) (fun _ q => absurd hx q) (fun _ _ q => absurd (by rw [h5] at q; exact q) hb)) (by decide)
    · refine CC_le (qm_294 (g := m) (hm15 1) (by rw [em15]; exact hG) (by rw [e515]; exact k3) (fun q => absurd (by rw [em15] at q; omega) ha) (fun _ V2 hV => ⟨rfl, cLE_rf, fin_15 h hP hm hm3 hgl hV rfl (by decide)⟩) (fun q => absurd (by rw [em15] at q; omega) ha) (fun q => absurd (by rw [em15] at q; omega) ha)) (by decide)
    · refine CC_le (qm_294 (g := m) (hm15 2) (by rw [em15]; exact hG) (by rw [e515]; exact k3) (fun _ q => absurd q hx) (fun q => absurd (by rw [em15]; omega) q) (fun _ _ V2 hV => ⟨rfl, cLE_rf, fin_15 h hP hm hm3 hgl hV rfl (by decide)⟩) (fun _ q => absurd q hx)) (by decide)
    · refine CC_le (qm_294 (g := m) (hm15 5) (by rw [em15]; exact hG) (by rw [e515]; exact k3) (fun _ _ q => absurd (by rw [e515]; exact hb) q) (fun q => absurd (by rw [em15]; omega) q) (fun _ q => absurd hx q) (fun _ _ _ V2 hV => ⟨rfl, cLE_rf, fin_15 h hP hm hm3 hgl hV rfl (by decide)⟩)) (by decide)
theorem ca_132 (h : RC c V) : GC c V 132 290 [] := by
  obtain ⟨c1, c2, g, hP, htp, htr, ⟨hz, hn⟩ | ⟨m, hm, hm3, hgl⟩⟩ := id h
  · have e4 : V g 4 0 = 0 := hn.1.2.2.2.2.1
    refine CC_le (qc_132 (S := V 305) (G := V 305) hP (fun q => by omega) (fun q => by omega) (fun _ => ⟨_, rfl, ?_⟩) (fun q => by omega)) (by decide)
    exact CC_le (qz_290 (by rw [sM_o (by decide)]; exact hz) (fun V2 hV => ⟨rfl, cLE_rf, fin_n h hP hz hn hV rfl (by decide)⟩)) (by decide)
  · obtain ⟨z0, z1, z4, e0, e1, e4⟩ := GL_sz hgl.1
    have hC := gl_cst hgl.1
    have hG := hgl.1.1
    obtain ⟨k1, k2, k3, k4, k5, k6, k7⟩ := hgl.1.2.2.2.2.1
    have em15 : ∀ t : Int, sM V 0 15 (fun _ => t) m = V m := fun t => sM_o (by omega)
    have e515 : ∀ t : Int, sM V 0 15 (fun _ => t) 305 = V 305 := fun t => sM_o (by decide)
    have hm15 : ∀ t : Int, mG c (sM V 0 15 (fun _ => t)) m := fun t => ⟨by rw [e515]; exact hm.1, hm.2⟩
    refine CC_le (qc_132 (S := V 305) (G := V m) hP (fun _ => ⟨hG, hC, e0, e1⟩) (fun ha h12 V' hA hC1 => ⟨_, rfl, ?_⟩) (fun ha => by omega) (fun ha h12 => ⟨_, rfl, ?_⟩)) (by decide)
    · have h5 : V' 305 = V 305 := hA.1 305 (by decide) (by omega)
      have hv : V' m = V m := hA.1 m (by omega) (by omega)
      refine CC_le (qm_290 (g := m) ⟨by rw [h5]; exact hm.1, hm.2⟩ (by rw [hv]; exact hG) (by rw [hv, h5]; exact hC.2.1) (by rw [h5]; exact k3) (fun _ V2 hV => ⟨by rw [h5, hv], cLE_rf, fin_act h hP hm hm3 hgl hA hC1 (fun k k0 k1 => (sF_ne (by omega)).trans (kk k0 k1)) (by rw [h5, hv] at hV; exact hV)⟩) (fun q => absurd (by rw [h5]; exact h12) q)) (by decide)
    · refine CC_le (qm_290 (g := m) (hm15 3) (by rw [em15]; exact hG) (by rw [em15, e515]; exact hC.2.1) (by rw [e515]; exact k3) (fun q => absurd (by rw [e515] at q; exact q) h12) (fun _ V2 hV => ⟨rfl, cLE_rf, fin_15 h hP hm hm3 hgl hV rfl (by decide)⟩)) (by decide)
theorem ca_136 {x : Int} (h : RC c V) : GC c V 136 295 [vI x] := by
  obtain ⟨c1, c2, g, hP, htp, htr, ⟨hz, hn⟩ | ⟨m, hm, hm3, hgl⟩⟩ := id h
  · have e4 : V g 4 0 = 0 := hn.1.2.2.2.2.1
    refine CC_le (qc_136 hP (fun q => by omega) (fun _ => ⟨_, rfl, ?_⟩) (fun q => by omega)) (by decide)
    exact CC_le (qz_295 (by rw [sM_o (by decide)]; exact hz) (fun V2 hV => ⟨rfl, cLE_rf, fin_n h hP hz hn hV rfl (by decide)⟩)) (by decide)
  · obtain ⟨z0, z1, z4, e0, e1, e4⟩ := GL_sz hgl.1
    have hC := gl_cst hgl.1
    have hG := hgl.1.1
    obtain ⟨k1, k2, k3, k4, k5, k6, k7⟩ := hgl.1.2.2.2.2.1
    have em15 : ∀ t : Int, sM V 0 15 (fun _ => t) m = V m := fun t => sM_o (by omega)
    have e515 : ∀ t : Int, sM V 0 15 (fun _ => t) 305 = V 305 := fun t => sM_o (by decide)
    have hm15 : ∀ t : Int, mG c (sM V 0 15 (fun _ => t)) m := fun t => ⟨by rw [e515]; exact hm.1, hm.2⟩
    have h4 := hG.2.2.2.2.1.2
    have h12 := hC.2.1.2.1.2
    refine CC_le (qc_136 hP (fun ha hx => ⟨_, rfl, ?_⟩) (fun ha => by omega) (fun ha hx => ⟨_, rfl, ?_⟩)) (by decide)
    · have ht : ∀ a, a ≠ 0 → a ≠ 85 → sM (sM V 85 7 (fun _ => x)) 0 15 (fun _ => 0) a = V a := fun a a0 a1 => by rw [sM_o a0, sM_o a1]
      have h5 := ht 305 (by decide) (by decide)
      have e14 : sM (sM V 85 7 (fun _ => x)) 0 15 (fun _ => 0) 0 14 = V 0 14 := by rw [sM_k (by decide), sM_o (by decide)]
      have hw : WR (V m) (sM (sM V 85 7 (fun _ => x)) 0 15 (fun _ => 0)) 85 (gUz (V 305 18) 58 x) := WR_ext (WR_sd hC.1 h4 h12) (by rw [sM_o (by decide)])
      refine CC_le (qm_295 (g := m) ⟨by rw [h5]; exact hm.1, hm.2⟩ (fun _ V2 hV => ⟨rfl, cLE_rf, ?_⟩) (fun q => absurd hx q)) (by decide)
      rw [h5] at hV
      refine RC_act (S1 := sF (V 305) 18 (gUz (V 305 18) 58 x)) h hP hm hm3 hgl (fun k hk => by rw [sM_k (by omega), sM_o (by decide)]) (fun a a0 ha => ht a a0 (by omega)) (by rw [sM_at]) (CST_18 hC (fun a a0 a1 => ht a (by omega) (by omega)) (fun k k0 k1 => sF_ne (by omega)) (by rw [sF_at]; exact hw) (by rw [sF_at]; exact VW_sd hC.2.1 h4 hx)) ?_ ?_ (fun k k0 k1 => sF_ne (by omega)) hV
      · rcases hgl.2.1 with q | ⟨q, hf⟩
        · exact Or.inl (by rw [e14]; exact q)
        · refine Or.inr ⟨by rw [e14]; exact q, ?_⟩
          rw [ht 236 (by decide) (by decide), ht 235 (by decide) (by decide)]
          intro T t1 t2 t3
          rw [sF_at] at t2
          exact hf T t1 ((seed_VE h12 h4).mp t2) t3
      · rcases hgl.2.2 with q | ⟨q, v, hf1, hf2, hf3⟩
        · exact Or.inl (by rw [ht 279 (by decide) (by decide)]; exact q)
        · refine Or.inr ⟨by rw [ht 279 (by decide) (by decide)]; exact q, v, ?_, hf2, by rw [ht 279 (by decide) (by decide)]; exact hf3⟩
          have e58 : ∀ i : Int, i ≠ 58 → nS (sF (V 305) 18 (gUz (V 305 18) 58 x)) 18 i = nS (V 305) 18 i := fun i hi => gUz_ne hi
          obtain ⟨p1, p2, p3⟩ := hf1
          have hv21 := hf2.2.1
          refine ⟨fun p p0 p1' => ?_, by rw [e58 21 (by omega)]; exact p2, fun k k0 k1 => ?_⟩
          · have kf : ∀ S : oV, kindF (nS S) p = S 18 p := fun S => rfl
            have hf : ∀ S : oV, habitF (nS S) p = S 18 (7 + p) := fun S => rfl
            have := p1 p p0 p1'
            rw [kf, hf] at this ⊢
            rw [e58 (14 + p) (by omega)]
            have g1 : sF (V 305) 18 (gUz (V 305 18) 58 x) 18 p = V 305 18 p := by rw [sF_at]; exact gUz_ne (by omega)
            have g2 : sF (V 305) 18 (gUz (V 305 18) 58 x) 18 (7 + p) = V 305 18 (7 + p) := by rw [sF_at]; exact gUz_ne (by omega)
            rw [g1, g2]
            exact this
          · rw [e58 _ (by omega), e58 _ (by omega), e58 _ (by omega)]
            exact p3 k k0 k1
    · refine CC_le (qm_295 (g := m) (hm15 2) (fun q => absurd q hx) (fun _ V2 hV => ⟨rfl, cLE_rf, fin_15 h hP hm hm3 hgl hV rfl (by decide)⟩)) (by decide)
theorem ca_137 (h : RC c V) : GC c V 137 296 [] := by
  obtain ⟨c1, c2, g, hP, htp, htr, ⟨hz, hn⟩ | ⟨m, hm, hm3, hgl⟩⟩ := id h
  · have e3 : V 99 3 0 = 0 := hn.2.2.2.2.1
    refine CC_le (qc_137 (S := V 305) (G := V 305) (fun q => absurd e3 q) (fun q => absurd e3 q) (fun _ => ⟨_, rfl, ?_⟩)) (by decide)
    exact CC_le (qz_296 (by rw [sM_o (by decide)]; exact hz) (fun V2 hV => ⟨rfl, cLE_rf, fin_n h hP hz hn hV rfl (by decide)⟩)) (by decide)
  · obtain ⟨z0, z1, z4, e0, e1, e4⟩ := GL_sz hgl.1
    have hC := gl_cst hgl.1
    have hG := hgl.1.1
    obtain ⟨k1, k2, k3, k4, k5, k6, k7⟩ := hgl.1.2.2.2.2.1
    have em15 : ∀ t : Int, sM V 0 15 (fun _ => t) m = V m := fun t => sM_o (by omega)
    have e515 : ∀ t : Int, sM V 0 15 (fun _ => t) 305 = V 305 := fun t => sM_o (by decide)
    have hm15 : ∀ t : Int, mG c (sM V 0 15 (fun _ => t)) m := fun t => ⟨by rw [e515]; exact hm.1, hm.2⟩
    refine CC_le (qc_137 (S := V 305) (G := V m) (fun _ => ⟨hG, hC⟩) (fun ha V' hA hC1 => ⟨_, rfl, ?_⟩) (fun ha => ⟨_, rfl, ?_⟩)) (by decide)
    · have h5 : V' 305 = V 305 := hA.1 305 (by decide) (by omega)
      refine CC_le (qm_296 (g := m) ⟨by rw [h5]; exact hm.1, hm.2⟩ (by rw [h5]; exact k3) (fun _ V2 hV => ⟨rfl, cLE_rf, fin_act h hP hm hm3 hgl hA hC1 (fun k k0 k1 => (sF_ne (by omega)).trans (s1_o (by omega))) (by rw [h5] at hV; exact hV)⟩) (fun q => absurd (by rw [h5] at q; omega) ha)) (by decide)
    · refine CC_le (qm_296 (g := m) (hm15 6) (by rw [e515]; exact k3) (fun q => absurd (by rw [e515]; omega) q) (fun _ V2 hV => ⟨rfl, cLE_rf, fin_15 h hP hm hm3 hgl hV rfl (by decide)⟩)) (by decide)
theorem ca_138 (h : RC c V) : GC c V 138 297 [] := by
  obtain ⟨c1, c2, g, hP, htp, htr, ⟨hz, hn⟩ | ⟨m, hm, hm3, hgl⟩⟩ := id h
  · have e4 : V g 4 0 = 0 := hn.1.2.2.2.2.1
    refine CC_le (qc_138 (S := V 305) (G := V 305) hP (fun q => by omega) (fun q => by omega) (fun _ => ⟨_, rfl, ?_⟩) (fun q => by omega)) (by decide)
    exact CC_le (qz_297 (by rw [sM_o (by decide)]; exact hz) (fun V2 hV => ⟨rfl, cLE_rf, fin_n h hP hz hn hV rfl (by decide)⟩)) (by decide)
  · obtain ⟨z0, z1, z4, e0, e1, e4⟩ := GL_sz hgl.1
    have hC := gl_cst hgl.1
    have hG := hgl.1.1
    obtain ⟨k1, k2, k3, k4, k5, k6, k7⟩ := hgl.1.2.2.2.2.1
    have em15 : ∀ t : Int, sM V 0 15 (fun _ => t) m = V m := fun t => sM_o (by omega)
    have e515 : ∀ t : Int, sM V 0 15 (fun _ => t) 305 = V 305 := fun t => sM_o (by decide)
    have hm15 : ∀ t : Int, mG c (sM V 0 15 (fun _ => t)) m := fun t => ⟨by rw [e515]; exact hm.1, hm.2⟩
    refine CC_le (qc_138 (S := V 305) (G := V m) hP (fun _ => ⟨hG, hC⟩) (fun ha hl V1 hV1 hC1 => ⟨_, rfl, ?_⟩) (fun ha => by omega) (fun ha hl => ⟨_, rfl, ?_⟩)) (by decide)
    · have ht : ∀ a, a ≠ 0 → a < 99 ∨ 235 ≤ a → sM V1 0 15 (fun _ => 0) a = V a := fun a a0 a1 => by rw [sM_o a0]; exact hV1 a a1
      have h5 := ht 305 (by decide) (by omega)
      refine CC_le (qm_297 (g := m) ⟨by rw [h5]; exact hm.1, hm.2⟩ (by rw [h5]; exact k5) (fun _ V2 hV => ⟨by rw [h5], cLE_rf, ?_⟩) (fun q => absurd (by rw [h5]; omega) q)) (by decide)
      rw [h5] at hV
      refine RC_act h hP hm hm3 hgl (fun k hk => by rw [sM_k (by omega), hV1 0 (by omega)]) (fun a a0 ha => ht a a0 (by omega)) (by rw [sM_at]) (CST_18 hC1 (fun a a0 a1 => sM_o (by omega)) (fun _ _ _ => rfl) (WR_ext hC1.1 (sM_o (by decide))) hC1.2.1) (CDy_eq hgl.2.1 (ht _ (by decide) (by omega)) (ht _ (by decide) (by omega)) (by rw [sM_k (by decide), hV1 0 (by omega)]) (by simp [mrkF, s1, sF])) (CX_eq hgl.2.2 (ht _ (by decide) (by omega)) (by simp [mrkF, s1, sF])) (fun k k0 k1 => (s1_o (by omega)).trans (sF_ne (by omega))) hV
    · refine CC_le (qm_297 (g := m) (hm15 3) (by rw [e515]; exact k5) (fun q => absurd (by rw [e515] at q; omega) hl) (fun _ V2 hV => ⟨rfl, cLE_rf, fin_15 h hP hm hm3 hgl hV rfl (by decide)⟩)) (by decide)
theorem ca_139 {x : Int} (h : RC c V) : GC c V 139 298 [vI x] := by
  obtain ⟨c1, c2, g, hP, htp, htr, ⟨hz, hn⟩ | ⟨m, hm, hm3, hgl⟩⟩ := id h
  · have e3 : V 99 4 0 = 0 := hn.2.2.2.2.2.1
    refine CC_le (qc_139 (S := V 305) (G := V 305) (fun q => by omega) (fun q => by omega) (fun _ => ⟨_, rfl, ?_⟩)) (by decide)
    exact CC_le (qz_298 (by rw [sM_o (by decide)]; exact hz) (fun V2 hV => ⟨rfl, cLE_rf, fin_n h hP hz hn hV rfl (by decide)⟩)) (by decide)
  · obtain ⟨z0, z1, z4, e0, e1, e4⟩ := GL_sz hgl.1
    have hC := gl_cst hgl.1
    have hG := hgl.1.1
    obtain ⟨k1, k2, k3, k4, k5, k6, k7⟩ := hgl.1.2.2.2.2.1
    have em15 : ∀ t : Int, sM V 0 15 (fun _ => t) m = V m := fun t => sM_o (by omega)
    have e515 : ∀ t : Int, sM V 0 15 (fun _ => t) 305 = V 305 := fun t => sM_o (by decide)
    have hm15 : ∀ t : Int, mG c (sM V 0 15 (fun _ => t)) m := fun t => ⟨by rw [e515]; exact hm.1, hm.2⟩
    refine CC_le (qc_139 (S := V 305) (G := V m) (fun _ => ⟨hG, hC⟩) (fun ha V' hA hC1 => ⟨_, rfl, ?_⟩) (fun ha => ⟨_, rfl, ?_⟩)) (by decide)
    · have h5 : V' 305 = V 305 := hA.1 305 (by decide) (by omega)
      refine CC_le (qm_298 (g := m) ⟨by rw [h5]; exact hm.1, hm.2⟩ (by rw [h5]; exact k5) (fun _ V2 hV => ⟨rfl, cLE_rf, fin_act h hP hm hm3 hgl hA hC1 (fun k k0 k1 => (s1_o (by omega)).trans (sF_ne (by omega))) (by rw [h5] at hV; exact hV)⟩) (fun q => absurd (by rw [h5]; omega) q)) (by decide)
    · refine CC_le (qm_298 (g := m) (hm15 1) (by rw [e515]; exact k5) (fun q => absurd (by rw [e515] at q; omega) ha) (fun _ V2 hV => ⟨rfl, cLE_rf, fin_15 h hP hm hm3 hgl hV rfl (by decide)⟩)) (by decide)
end CAB
