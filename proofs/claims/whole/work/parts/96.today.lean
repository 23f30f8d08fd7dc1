/-! TODAY: the class's diary of all days; its reading -/
theorem gP_cG {c : cT} {V : Mem} {g : Nat} (h : gP V g) : cG c V g := by
  obtain ⟨h1, h2, h3⟩ := h
  rcases h1 with rfl | rfl
  · exact ⟨h2, rfl, by decide⟩
  · exact ⟨h2, rfl, by decide⟩
theorem pe_chk : ∀ p ∈ List.range 7, (clL[2 + 13 + 4 * p]?).getD none = some 8 ∧ (clL[43 + 13 + 4 * p]?).getD none = some 8 := by decide +kernel
theorem mcl_pe {c g : Nat} (hg : g = 2 ∨ g = 43) : ∀ p : Nat, p < 7 → mcl c (g + 13 + 4 * p) = some 8 := fun p hp => by
  have := pe_chk p (List.mem_range.mpr hp)
  unfold mcl
  rw [if_pos (by omega)]
  rcases hg with rfl | rfl
  · exact this.1
  · exact this.2
def TDY (V : Mem) (S G : oV) (g : Nat) : Prop := gP V g ∧ GL0 V S G g ∧ CDy V S G
def TD (V V' : Mem) : Prop := (∀ a, a ≠ 0 → a ≠ 235 → a ≠ 236 → V' a = V a) ∧ (∀ k, k ≠ 14 → V' 0 k = V 0 k) ∧ V' 0 14 0 = 1
def TQ (V V' : Mem) (t : Int) : Prop := (∀ a, a ≠ 0 → a ≠ 235 → a ≠ 236 → V' a = V a) ∧ (∀ k, k < 14 → V' 0 k = V 0 k) ∧ V' 0 14 0 = 1 ∧ V' 0 15 0 = t
theorem TD_15 {V V' : Mem} {f : Int → Int} {t : Int} (h : TD (sM V 0 15 f) V') (ht : f 0 = t) : TQ V V' t := by
  obtain ⟨h1, h2, h3⟩ := h
  refine ⟨fun a a0 a1 a2 => by rw [h1 a a0 a1 a2, sM_o a0], fun k hk => by rw [h2 k (by omega), sM_k (by omega)], h3, by rw [h2 15 (by decide), sM_at, ht]⟩
theorem TQ_of {V V' : Mem} (h : TD V V') : TQ V V' (V 0 15 0) := ⟨h.1, fun k hk => h.2.1 k (by omega), h.2.2, by rw [h.2.1 15 (by decide)]⟩
theorem TQ_15 {V V' : Mem} {t t' : Int} (h : TQ V V' t) : TQ V (sM V' 0 15 (fun _ => t')) t' := ⟨fun a a0 a1 a2 => by rw [sM_o a0]; exact h.1 a a0 a1 a2, fun k hk => by rw [sM_k (by omega)]; exact h.2.1 k hk, by rw [sM_k (by decide)]; exact h.2.2.1, by rw [sM_at]⟩
theorem TQ_SC {V V' : Mem} {t : Int} (h : TQ V V' t) : SC V V' := ⟨h.2.1, fun a ha => h.1 a (by rintro rfl; exact core_0 ha) (by rintro rfl; unfold core at ha; omega) (by rintro rfl; unfold core at ha; omega)⟩
theorem TQ_cG {c : cT} {V V' : Mem} {g : Nat} {t : Int} (h : TQ V V' t) (hP : gP V g) : cG c V' g := by
  have := gP_cG (c := c) hP
  exact ⟨by rw [h.2.1 2 (by decide)]; exact this.1, this.2⟩
theorem TQ_g {V V' : Mem} {g : Nat} {t : Int} (h : TQ V V' t) (hP : gP V g) : V' g = V g ∧ ∀ p : Nat, p < 7 → V' (g + 13 + 4 * p) = V (g + 13 + 4 * p) := by
  have := hP.1
  exact ⟨h.1 g (by omega) (by omega) (by omega), fun p hp => h.1 _ (by omega) (by omega) (by omega)⟩
section TO
variable {c : cT} {V : Mem} {g : Nat} {G S : oV} {R : Option gAV → cT → Mem → Prop}
theorem TDY_15 {f : Int → Int} (h : TDY V S G g) : TDY (sM V 0 15 f) S G g := by
  obtain ⟨h1, h2, h3⟩ := h
  exact ⟨⟨h1.1, by rw [sM_k (by decide)]; exact h1.2.1, by rw [sM_k (by decide)]; exact h1.2.2⟩, GL0_sc h2 h1.1 (SC.rf.s0 (by decide)) AQ.rf, CDy_eq h3 (sM_o (by decide)) (sM_o (by decide)) (sM_k (by decide)) rfl⟩
theorem TDY_pos (h : TDY V S G g) : 0 < V g 4 0 := by
  have h1 := h.2.1.1.2.2.2.2.1
  have h2 := h.2.1.2.1.1.2.2.2.2.1
  omega
theorem VW_VB {v : Int → Int} (h : VW G v) : VB G v := fun p p0 p1 => ⟨(h.1 p p0 p1).1, (h.1 p p0 p1).2.1⟩
theorem nS_18 : nS S 18 = S 18 := rfl
theorem cc_159 (h : TDY V S G g) (hq : ∀ V', TD V V' → FD G S (V' 236) (V' 235) → R (some (vR (some 235))) c V') : CC 7 159 [vR (some 0)] c V R := by
  obtain ⟨h1, h2, h3⟩ := id h
  rcases h3 with hw | ⟨hw, hf⟩
  · have hk := gP_cG (c := c) h1
    refine cc_159b (G := G) (S := nS S) (v := S 18) (g := g) hw hk ⟨⟨k_235, k_236, hk.2.1, k_85⟩, mcl_pe h1.1, h2.2.1, h2.2.2.1⟩ h2.1 h2.2.2.2.1 rfl VE_n (VW_VB h2.2.2.2.1) (hq _ ⟨fun a a0 a1 a2 => ?_, fun k hk => ?_, ?_⟩ ?_)
    · rw [sM_o a0, mD_o a1 a2]
    · rw [sM_k hk, mD_o (by decide) (by decide)]
    · rw [sM_at]
    · intro T t1 t2 t3
      have e1 : ∀ X : oV × oV, mD V 235 X 236 = X.1 := fun X => mD_c
      rw [sM_o (by decide), sM_o (by decide), e1, mD_d]
      exact DY_run h2.1 t1 t3 t2
  · exact CC_le (cc_159a hw (hq V ⟨fun _ _ _ _ => rfl, fun _ _ => rfl, hw⟩ hf)) (by decide)
/-- a place's colour by the diary -/
def colD (K D : oV) (d k : Int) : Int := if D 1 (8 * d + k) < 0 then -2 else K 10 (D 1 (8 * d + k))
theorem runF_cap {T : oV} (hG : GW G) (hv : VW G (T 18)) (hm : MW G T) : runF G T 35 0 ≤ 70 := by
  have h0 := hG.1
  obtain ⟨n, hn⟩ : ∃ n : Nat, (G 0 0).toNat = n + 1 := ⟨(G 0 0).toNat - 1, by omega⟩
  rw [runF_eq, hn]
  have h1 := DI_days (n := n) hG hv hm
  have h2 := DI_day hG (d := n) (by omega) (MW_fr hm Fr_days) h1
  exact IV_cap h2.1 (by omega)
theorem FD_dy {K D : oV} (h : GL0 V S G g) (hf : FD G S K D) : DY G K D (runF G (nS S)) ∧ runF G (nS S) 35 0 ≤ 70 := ⟨hf _ h.2.2.2.1 VE_n rfl, runF_cap h.1 h.2.2.2.1 (Or.inl rfl)⟩
theorem FD_rng {K D : oV} (h : GL0 V S G g) (hf : FD G S K D) : K 8 0 ≤ 70 ∧ (∀ d k, 0 ≤ d → d < G 0 0 → 0 ≤ k → k < G 1 0 → D 1 (8 * d + k) = -2 ∨ (0 ≤ D 1 (8 * d + k) ∧ D 1 (8 * d + k) < K 8 0)) ∧ (∀ d p, 0 ≤ d → d < G 0 0 → 0 ≤ p → p < G 4 0 → D 3 (7 * d + p) = -2 ∨ (0 ≤ D 3 (7 * d + p) ∧ D 3 (7 * d + p) < K 8 0)) := by
  obtain ⟨⟨h1, h2, h3, h4, h5⟩, h6⟩ := FD_dy h hf
  have y1 := h.1.2.1
  refine ⟨by rw [h1.1]; exact h6, fun d k d0 d1 k0 k1 => ?_, fun d p d0 d1 p0 p1 => ?_⟩
  · rw [(h3 d d0 d1).1 k k0 k1, h1.1]
    have := (h4 d d0 d1).1 k k0 (by omega)
    omega
  · rw [((h3 d d0 d1).2 p p0 p1).2, h1.1]
    exact (h4 d d0 d1).2 p p0 p1
/-- the sizes of the class's glass -/
theorem GL_sz (h : GL0 V S G g) : (2 ≤ V g 0 0 ∧ V g 0 0 ≤ 30) ∧ (2 ≤ V g 1 0 ∧ V g 1 0 ≤ 8) ∧ (1 ≤ V g 4 0 ∧ V g 4 0 ≤ 7) ∧ V g 0 0 = G 0 0 ∧ V g 1 0 = G 1 0 ∧ V g 4 0 = G 4 0 := by
  obtain ⟨y0, y1, y2, y3, y4, -⟩ := h.1
  obtain ⟨e0, e1, e2, e3, e4, -⟩ := h.2.1.1
  rw [e0, e1, e4]
  exact ⟨y0, y1, y4, rfl, rfl, rfl⟩
end TO
