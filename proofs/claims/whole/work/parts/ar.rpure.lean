/-! A TEXT, LINE BY LINE: what a line does, that it goes on, that a glass stays well told -/
section MO
variable {t : Int → Int} {N : Int}
def mo (t : Int → Int) (N : Int) (s s' : Int × Int) : Prop := s'.1 = 0 → s.1 = 0 ∧ (0 ≤ s.2 → s.2 ≤ N → s.2 ≤ s'.2 ∧ s'.2 ≤ N)
theorem mo_rf {s : Int × Int} : mo t N s s := fun h => ⟨h, fun _ h2 => ⟨Int.le_refl _, h2⟩⟩
theorem mo_tr {a b d : Int × Int} (h1 : mo t N a b) (h2 : mo t N b d) : mo t N a d := fun h => by
  obtain ⟨u1, u2⟩ := h2 h
  obtain ⟨v1, v2⟩ := h1 u1
  exact ⟨v1, fun p q => by
    have x := v2 p q
    have y := u2 (by omega) x.2
    omega⟩
theorem mo_fl {s s' : Int × Int} {f : Int} (hf : f ≠ 0) : mo t N s (flw t N s' f) := fun h => absurd h (flw_1 hf)
theorem mo_gO {s s' : Int × Int} (h0 : mo t N s s') : mo t N s (gOn t N s') := mo_tr h0 fun h => by
  rw [gOn_1] at h
  refine ⟨h, fun p q => ?_⟩
  have := (nx_b (t := t) p q).1
  unfold gOn
  rw [if_pos h]
  dsimp only
  omega
theorem mo_it {P : Prop} [Decidable P] {s a b : Int × Int} (h1 : mo t N s a) (h2 : mo t N s b) : mo t N s (if P then a else b) := by
  split
  · exact h1
  · exact h2
theorem mo_nds {s s' : Int × Int} {w : Int} (h : mo t N s s') : mo t N s (nds t N s' w) := mo_gO (mo_it h (mo_fl (by decide)))
theorem mo_ndC {s s' : Int × Int} (h : mo t N s s') : mo t N s (ndC t N s') := mo_gO (mo_it h (mo_fl (by decide)))
theorem mo_bnS {s s' : Int × Int} {lo hi : Int} (h : mo t N s s') : mo t N s (bnS t N s' lo hi) := mo_it (mo_it h (mo_fl (by decide))) (mo_fl (by decide))
theorem mo_rdS {s s' : Int × Int} {lo hi : Int} (h : mo t N s s') : mo t N s (rdS t N s' lo hi) := mo_gO (mo_bnS h)
theorem mo_bgS {G : oV} {s s' : Int × Int} {a b : Int} (h : mo t N s s') : mo t N s (bgS t N G s' a b) := mo_gO (mo_it (mo_fl (by decide)) (mo_it (mo_fl (by decide)) h))
theorem mo_knS {G : oV} {s s' : Int × Int} (h : mo t N s s') : mo t N s (knS t N G s') := mo_it (mo_fl (by decide)) (mo_it h (mo_fl (by decide)))
/-- a line -/
def lnS (t : Int → Int) (N : Int) (G : oV) (s : Int × Int) : Int × Int := if isW t N s (wK 26) = true then gA4 t N G s else if isW t N s (wK 31) = true then pN t N G s else if isW t N s (wK 32) = true then aE t N G s else if isW t N s (wK 33) = true then mE t N G s else if isW t N s (wK 34) = true then qF t N G s else if isW t N s (wK 35) = true then yD t N G s else flw t N s 1
def lnZ (t : Int → Int) (N : Int) (G : oV) (s : Int × Int) : oV := if isW t N s (wK 26) = true then gZg t N G s else if isW t N s (wK 31) = true then pZ t N G s else if isW t N s (wK 32) = true then aZ t N G s else if isW t N s (wK 33) = true then mZ t N G s else if isW t N s (wK 34) = true then qZ t N G s else if isW t N s (wK 35) = true then yZ t N G s else G
theorem mo_ln {G : oV} {s : Int × Int} : mo t N s (lnS t N G s) := by
  have d1 : (1 : Int) ≠ 0 := by decide
  have d3 : (3 : Int) ≠ 0 := by decide
  have d5 : (5 : Int) ≠ 0 := by decide
  have d7 : (7 : Int) ≠ 0 := by decide
  refine mo_it ?_ (mo_it ?_ (mo_it ?_ (mo_it ?_ (mo_it ?_ (mo_it ?_ (mo_fl d1))))))
  · have h0 : mo t N s (gA t N G s) := mo_gO (mo_it (mo_fl d3) mo_rf)
    have h1 : mo t N s (gA1 t N G s) := mo_rdS (mo_nds h0)
    have h2 : mo t N s (gA2 t N G s) := mo_rdS (mo_nds h1)
    have h3 : mo t N s (gA3 t N G s) := mo_rdS (mo_nds h2)
    exact mo_rdS (mo_nds h3)
  · have hA : mo t N s (pA t N G s) := mo_bgS mo_rf
    have hB0 : mo t N s (pB0 t N G s) := mo_it hA (mo_fl d1)
    have hB : mo t N s (pB t N G s) := mo_it (mo_fl d3) hB0
    have hC : mo t N s (pC t N G s) := mo_gO hB
    have hD : mo t N s (pD t N G s) := mo_gO (mo_it (mo_fl d1) hC)
    have hE : mo t N s (pE t N G s) := mo_nds hD
    have hF : mo t N s (pF t N G s) := mo_gO (mo_it (mo_fl d1) hE)
    have hG : mo t N s (pG t N G s) := mo_nds hF
    have hH : mo t N s (pH t N G s) := mo_it (mo_fl d1) hG
    have hI : mo t N s (pI t N G s) := mo_it (mo_fl d7) hH
    have hJ : mo t N s (pJ t N G s) := mo_gO hI
    have hK : mo t N s (pK t N G s) := mo_rdS (mo_nds hJ)
    have hL : mo t N s (pL t N G s) := mo_rdS (mo_nds hK)
    have hM : mo t N s (pM t N G s) := mo_nds hL
    exact mo_gO (mo_it (mo_fl d1) hM)
  · have hA : mo t N s (aA t N G s) := mo_bgS mo_rf
    have hB : mo t N s (aBk t N G s) := mo_gO (mo_it (mo_fl d5) (mo_knS hA))
    have hC : mo t N s (aC t N G s) := mo_rdS hB
    have hD : mo t N s (aD t N G s) := mo_nds hC
    exact mo_rdS hD
  · have hA : mo t N s (mA t N G s) := mo_bgS mo_rf
    have hB : mo t N s (mB t N G s) := mo_rdS hA
    have hC : mo t N s (mC t N G s) := mo_rdS hB
    have hD : mo t N s (mD2 t N G s) := mo_ndC hC
    exact mo_gO (mo_it (mo_fl d3) (mo_bnS hD))
  · have hA : mo t N s (qA t N G s) := mo_bgS mo_rf
    have hB : mo t N s (qB t N G s) := mo_rdS hA
    have hC : mo t N s (qC t N G s) := mo_it (mo_fl d1) hB
    have hD : mo t N s (qD t N G s) := mo_it (mo_fl d7) hC
    have hE : mo t N s (qE t N G s) := mo_it (mo_fl d7) hD
    exact mo_gO hE
  · have hA : mo t N s (yA t N G s) := mo_bgS mo_rf
    have hB : mo t N s (yB t N G s) := mo_gO (mo_knS hA)
    have hC : mo t N s (yC t N G s) := mo_rdS hB
    exact mo_rdS hC
/-- a semicolon -/
def smB (t : Int → Int) (N : Int) (s : Int × Int) : Bool := decide (s.1 = 0) && decide (kdF t N s.2 = 4)
theorem smB_k {s : Int × Int} (h : smB t N s = true) : s.1 = 0 ∧ kdF t N s.2 = 4 := by
  unfold smB at h
  simp only [Bool.and_eq_true, decide_eq_true_eq] at h
  exact h
theorem kd_4 {q : Int} (h : kdF t N q = 4) : stF t N q < N := by
  by_cases z : N ≤ stF t N q
  · unfold kdF at h
    rw [if_pos z] at h
    cases h
  · omega
theorem mo_sm {s s' : Int × Int} (h : smB t N s' = true) (h0 : 0 ≤ s.2) (h1 : s.2 ≤ N) (hm : mo t N s s') : s.1 = 0 ∧ s.2 < (gOn t N s').2 ∧ (gOn t N s').2 ≤ N := by
  obtain ⟨a, b⟩ := smB_k h
  obtain ⟨u1, u2⟩ := hm a
  have u3 := u2 h0 h1
  have x := nx_b (t := t) (q := s'.2) (by omega) u3.2
  have y := x.2 (kd_4 b)
  refine ⟨u1, ?_⟩
  unfold gOn
  rw [if_pos a]
  dsimp only
  omega
/-- all lines -/
def prA (t : Int → Int) (N : Int) : Nat → oV → Int × Int → oV × (Int × Int)
  | 0, G, s => (G, s)
  | n + 1, G, s => if smB t N (lnS t N G s) = true then prA t N n (lnZ t N G s) (gOn t N (lnS t N G s)) else (lnZ t N G s, lnS t N G s)
def prE (t : Int → Int) (N : Int) (r : oV × (Int × Int)) : Int × Int := if r.2.1 = 0 ∧ kdF t N r.2.2 = 1 then r.2 else flw t N r.2 1
def prF (t : Int → Int) (N : Int) (r : oV × (Int × Int)) : Int × Int := if r.1 4 0 = 0 then flw t N (prE t N r) 6 else prE t N r
end MO
section GVS
/-- a glass that is being told -/
def GB (G : oV) : Prop := 2 ≤ G 0 0 ∧ 2 ≤ G 1 0 ∧ 1 ≤ G 2 0 ∧ (0 ≤ G 3 0 ∧ G 3 0 ≤ 100)
  ∧ (∀ p, 0 ≤ p → p < G 4 0 → (0 ≤ G 9 p ∧ G 9 p ≤ 3) ∧ (0 ≤ G 10 p ∧ G 10 p ≤ 2) ∧ (1 ≤ G 11 p ∧ G 11 p ≤ 6) ∧ (3 ≤ G 13 p ∧ G 13 p ≤ 30) ∧ (1 ≤ G 14 p ∧ G 14 p ≤ 9) ∧ (0 ≤ G 15 p ∧ G 15 p ≤ 3) ∧ (G 18 p = 0 ∨ G 18 p = 1))
  ∧ (∀ p i, 0 ≤ p → p < G 4 0 → 0 ≤ i → i < G 11 p → 0 ≤ G 12 (6 * p + i) ∧ G 12 (6 * p + i) < G 2 0)
  ∧ (∀ p i, 0 ≤ p → p < G 4 0 → 0 ≤ i → i < G 15 p → 0 ≤ G 16 (3 * p + i) ∧ G 16 (3 * p + i) ≤ G 17 (3 * p + i) ∧ G 17 (3 * p + i) < G 0 0)
  ∧ (∀ k, 0 ≤ k → k < G 5 0 → (0 ≤ G 19 k ∧ G 19 k < G 0 0) ∧ (0 ≤ G 20 k ∧ G 20 k < G 1 0) ∧ (0 ≤ G 21 k ∧ G 21 k < G 1 0) ∧ G 20 k ≠ G 21 k)
  ∧ (∀ s, 0 ≤ s → s < G 6 0 → 0 ≤ G 22 s ∧ G 22 s < G 0 0)
  ∧ (∀ s, 0 ≤ s → s < G 7 0 → (0 ≤ G 24 s ∧ G 24 s < G 4 0) ∧ (0 ≤ G 25 s ∧ G 25 s < G 0 0) ∧ (0 ≤ G 26 s ∧ G 26 s < G 1 0))
def GV (G : oV) : Prop := GQ G ∧ (∀ p, G 4 0 ≤ p → p < 7 → G 15 p = 0) ∧ ((G 0 0 = 0 ∧ G 4 0 = 0 ∧ G 5 0 = 0 ∧ G 6 0 = 0 ∧ G 7 0 = 0) ∨ GB G)
theorem GV_GW {G : oV} (h : GV G) (h4 : G 4 0 ≠ 0) : GW G := by
  obtain ⟨⟨g0, g1, g2, g4, g5, g6, g7, -⟩, -, h | ⟨b0, b1, b2, b3, b⟩⟩ := h
  · exact absurd h.2.1 h4
  · exact ⟨⟨b0, g0.2⟩, ⟨b1, g1.2⟩, ⟨b2, g2.2⟩, b3, ⟨by omega, g4.2⟩, g5, g6, g7, b⟩
theorem GV_0 {G : oV} (h : ∀ k i, G k i = 0) : GV G := by
  refine ⟨⟨?_, ?_, ?_, ?_, ?_, ?_, ?_, ?_, ?_⟩, fun p _ _ => h 15 p, Or.inl ⟨h _ _, h _ _, h _ _, h _ _, h _ _⟩⟩
  iterate 7 (rw [h]; omega)
  · intro p _ _; rw [h]; omega
  · intro p _ _; rw [h]; omega
variable {t : Int → Int} {N : Int} {s : Int × Int} {G : oV}
theorem GV_B (h : GV G) (h0 : G 0 0 ≠ 0) : GB G := by
  rcases h.2.2 with q | q
  · exact absurd q.1 h0
  · exact q
theorem GV_g (h : GV G) (ho : (gA4 t N G s).1 = 0) : GV (gZg t N G s) := by
  have k4 := rdS_k ho
  have k4' := (nds_k k4.1).1.1
  have k3 := rdS_k k4'
  have k3' := (nds_k k3.1).1.1
  have k2 := rdS_k k3'
  have k2' := (nds_k k2.1).1.1
  have k1 := rdS_k k2'
  have k1' := (nds_k k1.1).1.1
  have k0 : ¬ 0 < G 0 0 := by
    intro z
    have q := k1'
    unfold gA at q
    rw [gOn_1, if_pos z] at q
    exact absurd q (flw_1 (by decide))
  obtain ⟨⟨g0, g1, g2, g4, g5, g6, g7, g15, g17⟩, hp, hc⟩ := h
  obtain ⟨z0, z4, z5, z6, z7⟩ : G 0 0 = 0 ∧ G 4 0 = 0 ∧ G 5 0 = 0 ∧ G 6 0 = 0 ∧ G 7 0 = 0 := by
    rcases hc with q | q
    · exact q
    · have := q.1; omega
  have e0 : gZg t N G s 0 0 = bnV t N (nds t N (gA t N G s) (wK 27)) 2 30 := rfl
  have e1 : gZg t N G s 1 0 = bnV t N (nds t N (gA1 t N G s) (wK 28)) 2 8 := rfl
  have e2 : gZg t N G s 2 0 = bnV t N (nds t N (gA2 t N G s) (wK 29)) 1 6 := rfl
  have e3 : gZg t N G s 3 0 = bnV t N (nds t N (gA3 t N G s) (wK 30)) 0 100 := rfl
  have eo : ∀ k, 4 ≤ k → gZg t N G s k = G k := fun k hk => by
    unfold gZg
    rw [sF_ne (by omega), sF_ne (by omega), sF_ne (by omega), sF_ne (by omega)]
  rw [k1.2.2.2.2] at e0
  rw [k2.2.2.2.2] at e1
  rw [k3.2.2.2.2] at e2
  rw [k4.2.2.2.2] at e3
  have r1 := k1.2.2.1
  have r2 := k2.2.2.1
  have r3 := k3.2.2.1
  have r4 := k4.2.2.1
  have o4 := eo 4 (by omega)
  have o5 := eo 5 (by omega)
  have o6 := eo 6 (by omega)
  have o7 := eo 7 (by omega)
  have o15 := eo 15 (by omega)
  have o17 := eo 17 (by omega)
  refine ⟨⟨by omega, by omega, by omega, by rw [o4]; exact g4, by rw [o5]; exact g5, by rw [o6]; exact g6, by rw [o7]; exact g7, by rw [o15]; exact g15, by rw [o17]; exact g17⟩, by rw [o4, o15]; exact hp, Or.inr ⟨by omega, by omega, by omega, by omega, ?_, ?_, ?_, ?_, ?_, ?_⟩⟩
  · intro p p0 p1; rw [o4, z4] at p1; omega
  · intro p i p0 p1; rw [o4, z4] at p1; omega
  · intro p i p0 p1; rw [o4, z4] at p1; omega
  · intro p p0 p1; rw [o5, z5] at p1; omega
  · intro p p0 p1; rw [o6, z6] at p1; omega
  · intro p p0 p1; rw [o7, z7] at p1; omega
theorem GV_m (h : GV G) (ho : (mE t N G s).1 = 0) : GV (mZ t N G s) := by
  have f5 : (bnS t N (mD2 t N G s) 0 (G 1 0 - 1)).1 = 0 ∧ ¬ bnV t N (mB t N G s) 0 (G 1 0 - 1) = bnV t N (mD2 t N G s) 0 (G 1 0 - 1) := by
    unfold mE at ho
    rw [gOn_1] at ho
    by_cases z : (bnS t N (mD2 t N G s) 0 (G 1 0 - 1)).1 = 0 ∧ bnV t N (mB t N G s) 0 (G 1 0 - 1) = bnV t N (mD2 t N G s) 0 (G 1 0 - 1)
    · rw [if_pos z] at ho
      exact absurd ho (flw_1 (by decide))
    · rw [if_neg z] at ho
      exact ⟨ho, fun y => z ⟨ho, y⟩⟩
  have k5 := bnS_k f5.1
  have v5 : bnV t N (mD2 t N G s) 0 (G 1 0 - 1) = vlF t N (mD2 t N G s).2 := by unfold bnV; rw [if_pos f5.1]
  have k4 := (ndC_k k5.2.1).1.1
  have k3 := rdS_k k4
  have k2 := rdS_k k3.1
  have k1 := bgS_k k2.1
  have hB := GV_B h k1.2.2.1
  obtain ⟨⟨g0, g1, g2, g4, g5, g6, g7, g15, g17⟩, hp, -⟩ := h
  obtain ⟨b0, b1, b2, b3, b4, b5, b6, b7, b8, b9⟩ := hB
  have e5 : mZ t N G s 5 0 = G 5 0 + 1 := rfl
  have e19 : mZ t N G s 19 = gUz (G 19) (G 5 0) (bnV t N (mA t N G s) 0 (G 0 0 - 1)) := rfl
  have e20 : mZ t N G s 20 = gUz (G 20) (G 5 0) (bnV t N (mB t N G s) 0 (G 1 0 - 1)) := rfl
  have e21 : mZ t N G s 21 = gUz (G 21) (G 5 0) (bnV t N (mD2 t N G s) 0 (G 1 0 - 1)) := rfl
  have v2 := k2.2.2.2.2
  have v3 := k3.2.2.2.2
  have r2 := k2.2.2.1
  have r3 := k3.2.2.1
  have r5 := k5.2.2.2
  have n5 := f5.2
  rw [v3, v5] at n5
  have a5 := k1.2.1
  refine ⟨⟨g0, g1, g2, g4, by omega, g6, g7, g15, g17⟩, hp, Or.inr ⟨b0, b1, b2, b3, b4, b5, b6, ?_, b8, b9⟩⟩
  intro k k0 kk
  rw [e5] at kk
  rw [e19, e20, e21]
  show (_ ∧ _ < G 0 0) ∧ (_ ∧ _ < G 1 0) ∧ (_ ∧ _ < G 1 0) ∧ _
  by_cases e : k = G 5 0
  · rw [e, gUz_at, gUz_at, gUz_at, v2, v3, v5]
    omega
  · rw [gUz_ne e, gUz_ne e, gUz_ne e]
    exact b7 k k0 (by omega)
theorem fdF_b {w : Int} (h4 : 0 ≤ G 4 0) (h : fdF G w ≠ -1) : 0 ≤ fdF G w ∧ fdF G w < G 4 0 := by
  have := fd_b (w := w) h4
  omega
theorem GV_y (h : GV G) (ho : (yD t N G s).1 = 0) : GV (yZ t N G s) := by
  have k4 := rdS_k ho
  have k3 := rdS_k k4.1
  have k2 : (knS t N G (yA t N G s)).1 = 0 := by
    have := k3.1
    unfold yB at this
    rw [gOn_1] at this
    exact this
  have kn := knS_k k2
  have k1 := bgS_k (nameB_k kn.1).1
  have hB := GV_B h k1.2.2.1
  obtain ⟨⟨g0, g1, g2, g4, g5, g6, g7, g15, g17⟩, hp, -⟩ := h
  obtain ⟨b0, b1, b2, b3, b4, b5, b6, b7, b8, b9⟩ := hB
  have fb := fdF_b g4.1 kn.2.1
  have e7 : yZ t N G s 7 0 = G 7 0 + 1 := rfl
  have e24 : yZ t N G s 24 = gUz (G 24) (G 7 0) (knV t N G (yA t N G s)) := rfl
  have e25 : yZ t N G s 25 = gUz (G 25) (G 7 0) (bnV t N (yB t N G s) 0 (G 0 0 - 1)) := rfl
  have e26 : yZ t N G s 26 = gUz (G 26) (G 7 0) (bnV t N (yC t N G s) 0 (G 1 0 - 1)) := rfl
  have v3 := k3.2.2.2.2
  have v4 := k4.2.2.2.2
  have r3 := k3.2.2.1
  have r4 := k4.2.2.1
  have a7 := k1.2.1
  refine ⟨⟨g0, g1, g2, g4, g5, g6, by omega, g15, g17⟩, hp, Or.inr ⟨b0, b1, b2, b3, b4, b5, b6, b7, b8, ?_⟩⟩
  intro k k0 kk
  rw [e7] at kk
  rw [e24, e25, e26]
  show (_ ∧ _ < G 4 0) ∧ (_ ∧ _ < G 0 0) ∧ (_ ∧ _ < G 1 0)
  by_cases e : k = G 7 0
  · rw [e, gUz_at, gUz_at, gUz_at, v3, v4, kn.2.2.2]
    omega
  · rw [gUz_ne e, gUz_ne e, gUz_ne e]
    exact b9 k k0 (by omega)
theorem GV_q (h : GV G) (ho : (qF t N G s).1 = 0) : GV (qZ t N G s) := by
  have kE : (qE t N G s).1 = 0 := by
    unfold qF at ho
    rw [gOn_1] at ho
    exact ho
  have kD : (qD t N G s).1 = 0 := by
    unfold qE at kE
    by_cases z : (qD t N G s).1 = 0 ∧ anyB (G 1 0).toNat (fun k => !(sokB t N G (qD t N G s).2 k)) = true
    · exact z.1
    · rw [if_neg z] at kE; exact kE
  have kC : (qC t N G s).1 = 0 := by
    unfold qD at kD
    by_cases z : (qC t N G s).1 = 0 ∧ ¬ (lnF t N (qC t N G s).2 : Int) = G 1 0
    · exact z.1
    · rw [if_neg z] at kD; exact kD
  have kB : (qB t N G s).1 = 0 := by
    unfold qC at kC
    by_cases z : ¬ ((qB t N G s).1 = 0 ∧ kdF t N (qB t N G s).2 = 2)
    · rw [if_pos z] at kC; exact absurd kC (flw_1 (by decide))
    · exact (Classical.not_not.mp z).1
  have k2 := rdS_k kB
  have k1 := bgS_k k2.1
  have hB := GV_B h k1.2.2.1
  obtain ⟨⟨g0, g1, g2, g4, g5, g6, g7, g15, g17⟩, hp, -⟩ := h
  obtain ⟨b0, b1, b2, b3, b4, b5, b6, b7, b8, b9⟩ := hB
  have e6 : qZ t N G s 6 0 = G 6 0 + 1 := rfl
  have e22 : qZ t N G s 22 = gUz (G 22) (G 6 0) (bnV t N (qA t N G s) 0 (G 0 0 - 1)) := rfl
  have v2 := k2.2.2.2.2
  have r2 := k2.2.2.1
  have a6 := k1.2.1
  refine ⟨⟨g0, g1, g2, g4, g5, by omega, g7, g15, g17⟩, hp, Or.inr ⟨b0, b1, b2, b3, b4, b5, b6, b7, ?_, b9⟩⟩
  intro k k0 kk
  rw [e6] at kk
  rw [e22]
  show _ ∧ _ < G 0 0
  by_cases e : k = G 6 0
  · rw [e, gUz_at, v2]
    omega
  · rw [gUz_ne e]
    exact b8 k k0 (by omega)
theorem GV_a (h : GV G) (ho : (aE t N G s).1 = 0) : GV (aZ t N G s) := by
  have k5 := rdS_k ho
  have k4 := (nds_k k5.1).1.1
  have k3 := rdS_k k4
  have kb : (knS t N G (aA t N G s)).1 = 0 ∧ ¬ G 15 (aP t N G s) = 3 := by
    have q := k3.1
    unfold aBk at q
    rw [gOn_1] at q
    by_cases z : (knS t N G (aA t N G s)).1 = 0 ∧ G 15 (aP t N G s) = 3
    · rw [if_pos z] at q; exact absurd q (flw_1 (by decide))
    · rw [if_neg z] at q
      exact ⟨q, fun y => z ⟨q, y⟩⟩
  have kn := knS_k kb.1
  have k1 := bgS_k (nameB_k kn.1).1
  have hB := GV_B h k1.2.2.1
  obtain ⟨⟨g0, g1, g2, g4, g5, g6, g7, g15, g17⟩, hp, -⟩ := h
  obtain ⟨b0, b1, b2, b3, b4, b5, b6, b7, b8, b9⟩ := hB
  have fb := fdF_b g4.1 kn.2.1
  have ep : aP t N G s = fdF G (wdF t N (aA t N G s).2) := kn.2.2.2
  rw [← ep] at fb
  have e15 : aZ t N G s 15 = gUz (G 15) (aP t N G s) (G 15 (aP t N G s) + 1) := rfl
  have e16 : aZ t N G s 16 = gUz (G 16) (3 * aP t N G s + G 15 (aP t N G s)) (aF t N G s) := rfl
  have e17 : aZ t N G s 17 = gUz (G 17) (3 * aP t N G s + G 15 (aP t N G s)) (aT t N G s) := rfl
  obtain ⟨p, hpp⟩ : ∃ p, p = aP t N G s := ⟨_, rfl⟩
  have h15 := kb.2
  have hlo : 0 ≤ aLo t N G s := by
    unfold aLo
    by_cases z : ¬ (aBk t N G s).1 = 0 ∨ G 15 (aP t N G s) = 0
    · rw [if_pos z]; omega
    · rw [if_neg z]
      have u : ¬ G 15 (aP t N G s) = 0 := fun y => z (Or.inr y)
      have v := g15 (aP t N G s) fb.1 (by omega)
      have := g17 (3 * aP t N G s + G 15 (aP t N G s) - 1) (by omega) (by omega)
      omega
  rw [← hpp] at fb e15 e16 e17 h15
  have w15 := g15 p fb.1 (by omega)
  have vF : aF t N G s = vlF t N (aBk t N G s).2 := k3.2.2.2.2
  have vT : aT t N G s = vlF t N (aD t N G s).2 := k5.2.2.2.2
  have r3 := k3.2.2.1
  have r5 := k5.2.2.1
  obtain ⟨F, hF⟩ : ∃ F, F = aF t N G s := ⟨_, rfl⟩
  obtain ⟨T, hT⟩ : ∃ T, T = aT t N G s := ⟨_, rfl⟩
  rw [← vF, ← hF] at r3
  rw [← vT, ← hT, ← hF] at r5
  rw [← hF] at e16
  rw [← hT] at e17
  refine ⟨⟨g0, g1, g2, g4, g5, g6, g7, ?_, ?_⟩, ?_, Or.inr ⟨b0, b1, b2, b3, ?_, b5, ?_, b7, b8, b9⟩⟩
  · intro j j0 j1
    rw [e15]
    by_cases e : j = p
    · rw [e, gUz_at]; omega
    · rw [gUz_ne e]; exact g15 j j0 j1
  · intro j j0 j1
    rw [e17]
    by_cases e : j = 3 * p + G 15 p
    · rw [e, gUz_at]; omega
    · rw [gUz_ne e]; exact g17 j j0 j1
  · intro j j0 j1
    have j0 : G 4 0 ≤ j := j0
    rw [e15, gUz_ne (by omega)]
    exact hp j j0 j1
  · intro j j0 j1
    have j1 : j < G 4 0 := j1
    obtain ⟨u1, u2, u3, u4, u5, u6, u7⟩ := b4 j j0 j1
    refine ⟨u1, u2, u3, u4, u5, ?_, u7⟩
    rw [e15]
    by_cases e : j = p
    · rw [e, gUz_at]; omega
    · rw [gUz_ne e]; exact u6
  · intro j i j0 j1 i0 i1
    have j1 : j < G 4 0 := j1
    rw [e15] at i1
    rw [e16, e17]
    show _ ∧ _ ∧ _ < G 0 0
    have w := g15 j j0 (by omega)
    by_cases e : j = p
    · rw [e, gUz_at] at i1
      by_cases e2 : i = G 15 p
      · rw [e, e2, gUz_at, gUz_at]; omega
      · rw [gUz_ne (by omega), gUz_ne (by omega)]
        exact b6 j i j0 j1 i0 (by rw [e]; omega)
    · rw [gUz_ne e] at i1
      rw [gUz_ne (by omega), gUz_ne (by omega)]
      exact b6 j i j0 j1 i0 i1
theorem lkW_at {q : Int} : ∀ {n : Nat} {j : Int}, lkW t N G q n j = if 6 * G 4 0 ≤ j ∧ j < 6 * G 4 0 + n then t (stF t N q + (j - 6 * G 4 0)) - 97 else G 12 j
  | 0, j => by
    rw [if_neg (by omega)]
    rfl
  | n + 1, j => by
    have e : lkW t N G q (n + 1) = gUz (lkW t N G q n) (6 * G 4 0 + (n : Int)) (t (stF t N q + (n : Int)) - 97) := rfl
    rw [e]
    by_cases h : j = 6 * G 4 0 + n
    · rw [h, gUz_at, if_pos (by omega)]
      have : 6 * G 4 0 + (n : Int) - 6 * G 4 0 = n := by omega
      rw [this]
    · rw [gUz_ne h, lkW_at]
      by_cases z : 6 * G 4 0 ≤ j ∧ j < 6 * G 4 0 + n
      · rw [if_pos z, if_pos (by omega)]
      · rw [if_neg z, if_neg (by omega)]
theorem kiF_b {s : Int × Int} (h : kiF t N s ≠ -1) : 0 ≤ kiF t N s ∧ kiF t N s ≤ 3 := by
  unfold kiF at h ⊢
  split
  · omega
  · split
    · omega
    · split
      · omega
      · split
        · omega
        · rename_i a b d e
          rw [if_neg a, if_neg b, if_neg d, if_neg e] at h
          exact absurd rfl h
theorem hbF_b {s : Int × Int} (h : hbF t N s ≠ -1) : 0 ≤ hbF t N s ∧ hbF t N s ≤ 2 := by
  unfold hbF at h ⊢
  split
  · omega
  · split
    · omega
    · split
      · omega
      · rename_i a b d
        rw [if_neg a, if_neg b, if_neg d] at h
        exact absurd rfl h
theorem GV_p (h : GV G) (hs : s.1 = 0 → 0 ≤ s.2 ∧ s.2 ≤ N) (ho : (pN t N G s).1 = 0) : GV (pZ t N G s) := by
  obtain ⟨kM, kL, kK, kJ, kI, eI, kH, eH, k2, kG, kF, kE, kDd, kC, kB, eB, nB1, fB, kA, n7, kki, khb⟩ := pN_k ho
  have k1 := bgS_k kA
  have hB := GV_B h k1.2.2.1
  obtain ⟨⟨g0, g1, g2, g4, g5, g6, g7, g15, g17⟩, hp, -⟩ := h
  obtain ⟨b0, b1, b2, b3, b4, b5, b6, b7, b8, b9⟩ := hB
  have rK := rdS_k kK
  have rL := rdS_k kL
  have hH : mo t N s (pH t N G s) := by
    have hA : mo t N s (pA t N G s) := mo_bgS mo_rf
    have hB0 : mo t N s (pB0 t N G s) := mo_it hA (mo_fl (by decide))
    have hB : mo t N s (pB t N G s) := mo_it (mo_fl (by decide)) hB0
    have hC : mo t N s (pC t N G s) := mo_gO hB
    have hD : mo t N s (pD t N G s) := mo_gO (mo_it (mo_fl (by decide)) hC)
    have hE : mo t N s (pE t N G s) := mo_nds hD
    have hF : mo t N s (pF t N G s) := mo_gO (mo_it (mo_fl (by decide)) hE)
    have hG : mo t N s (pG t N G s) := mo_nds hF
    exact mo_it (mo_fl (by decide)) hG
  obtain ⟨hs0, hm⟩ := hH kH
  have q0 := hs hs0
  have q1 := hm q0.1 q0.2
  obtain ⟨w, hw⟩ : ∃ w, w = pH t N G s := ⟨_, rfl⟩
  rw [← hw] at q1 k2 kH
  obtain ⟨-, hl8, -, hlet⟩ := kd_2 (by omega) q1.2 k2
  have hok : ∀ k : Int, 0 ≤ k → k < lnF t N w.2 → lokB t N G w.2 k = true := fun k k0 kk => by
    cases e : lokB t N G w.2 k with
    | true => rfl
    | false =>
      have q := kI
      unfold pI at q
      rw [← hw, if_pos ⟨kH, anyB_iff.mpr ⟨k, k0, kk, by rw [e]; rfl⟩⟩] at q
      exact absurd q (flw_1 (by decide))
  have hran : ∀ k : Int, 0 ≤ k → k < lnF t N w.2 → 0 ≤ t (stF t N w.2 + k) - 97 ∧ t (stF t N w.2 + k) - 97 ≤ G 2 0 - 1 := fun k k0 kk => by
    have := hok k k0 kk
    unfold lokB at this
    simp only [Bool.and_eq_true, decide_eq_true_eq] at this
    exact this.1
  have h6 : (lnF t N w.2 : Int) ≤ 6 := by
    have : (lnF t N w.2 : Int) - 1 < 6 := by
      refine pig (a := fun j => t (stF t N w.2 + j) - 97) (fun j j0 j1 => ?_) (fun i j i0 ij jk => ?_)
      · have := hran j j0 (by omega)
        omega
      · have := hok j (by omega) (by omega)
        unfold lokB at this
        simp only [Bool.and_eq_true, Bool.not_eq_true'] at this
        intro e
        have hh : anyB j.toNat (fun i => decide (t (stF t N w.2 + i) = t (stF t N w.2 + j))) = true := anyB_iff.mpr ⟨i, i0, by omega, decide_eq_true (by omega)⟩
        rw [hh] at this
        exact absurd this.2 (by decide)
    omega
  have e4 : pZ t N G s 4 0 = G 4 0 + 1 := rfl
  have e9 : pZ t N G s 9 = gUz (G 9) (G 4 0) (kiF t N (pC t N G s)) := rfl
  have e10 : pZ t N G s 10 = gUz (G 10) (G 4 0) (hbF t N (pE t N G s)) := rfl
  have e11 : pZ t N G s 11 = gUz (G 11) (G 4 0) (lnF t N (pH t N G s).2 : Int) := rfl
  have e12 : pZ t N G s 12 = lkW t N G (pH t N G s).2 (lnF t N (pH t N G s).2) := rfl
  have e13 : pZ t N G s 13 = gUz (G 13) (G 4 0) (bnV t N (nds t N (pJ t N G s) (wK 45)) 3 30) := rfl
  have e14 : pZ t N G s 14 = gUz (G 14) (G 4 0) (bnV t N (nds t N (pK t N G s) (wK 46)) 1 9) := rfl
  have e18 : pZ t N G s 18 = gUz (G 18) (G 4 0) (if isW t N (pM t N G s) (wK 48) = true then 1 else 0) := rfl
  have e15 : pZ t N G s 15 = G 15 := rfl
  have e2 : pZ t N G s 2 = G 2 := rfl
  rw [← hw] at e11 e12
  have bk := kiF_b kki
  have bh := hbF_b khb
  have v1 := rK.2.2.2.2
  have v2 := rL.2.2.2.2
  have r1 := rK.2.2.1
  have r2 := rL.2.2.1
  refine ⟨⟨g0, g1, g2, by omega, g5, g6, g7, g15, g17⟩, ?_, Or.inr ⟨b0, b1, b2, b3, ?_, ?_, ?_, b7, b8, ?_⟩⟩
  · intro p p0 p1
    rw [e4] at p0
    exact hp p (by omega) p1
  · intro p p0 p1
    rw [e4] at p1
    rw [e9, e10, e11, e13, e14, e15, e18]
    by_cases e : p = G 4 0
    · rw [e]
      simp only [gUz_at]
      rw [v1, v2]
      refine ⟨bk, bh, by omega, r1, r2, by have := hp (G 4 0) (by omega) (by omega); omega, ?_⟩
      split
      · exact Or.inr rfl
      · exact Or.inl rfl
    · simp only [gUz_ne e]
      exact b4 p p0 (by omega)
  · intro p i p0 p1 i0 i1
    rw [e4] at p1
    rw [e11] at i1
    rw [e12, e2, lkW_at]
    by_cases e : p = G 4 0
    · rw [e, gUz_at] at i1
      rw [e, if_pos (by omega)]
      have : 6 * G 4 0 + i - 6 * G 4 0 = i := by omega
      rw [this]
      have := hran i i0 i1
      omega
    · rw [gUz_ne e] at i1
      have hb := b4 p p0 (by omega)
      rw [if_neg (by omega)]
      exact b5 p i p0 (by omega) i0 i1
  · intro p i p0 p1 i0 i1
    rw [e4] at p1
    by_cases e : p = G 4 0
    · have i1 : i < G 15 p := i1
      rw [e, hp (G 4 0) (by omega) (by omega)] at i1
      omega
    · exact b6 p i p0 (by omega) i0 i1
  · intro k k0 kk
    have := b9 k k0 kk
    refine ⟨⟨this.1.1, ?_⟩, this.2⟩
    rw [e4]
    have : G 24 k < G 4 0 := this.1.2
    show G 24 k < _
    omega
theorem GV_ln (h : GV G) (hs : s.1 = 0 → 0 ≤ s.2 ∧ s.2 ≤ N) (ho : (lnS t N G s).1 = 0) : GV (lnZ t N G s) := by
  unfold lnS at ho
  unfold lnZ
  by_cases c1 : isW t N s (wK 26) = true
  · rw [if_pos c1] at ho ⊢; exact GV_g h ho
  rw [if_neg c1] at ho ⊢
  by_cases c2 : isW t N s (wK 31) = true
  · rw [if_pos c2] at ho ⊢; exact GV_p h hs ho
  rw [if_neg c2] at ho ⊢
  by_cases c3 : isW t N s (wK 32) = true
  · rw [if_pos c3] at ho ⊢; exact GV_a h ho
  rw [if_neg c3] at ho ⊢
  by_cases c4 : isW t N s (wK 33) = true
  · rw [if_pos c4] at ho ⊢; exact GV_m h ho
  rw [if_neg c4] at ho ⊢
  by_cases c5 : isW t N s (wK 34) = true
  · rw [if_pos c5] at ho ⊢; exact GV_q h ho
  rw [if_neg c5] at ho ⊢
  by_cases c6 : isW t N s (wK 35) = true
  · rw [if_pos c6] at ho ⊢; exact GV_y h ho
  rw [if_neg c6]
  exact h
end GVS
