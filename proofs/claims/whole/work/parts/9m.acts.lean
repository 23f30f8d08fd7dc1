/-! ACTS: the memory of ways against the rows of the past -/
def CST (V : Mem) (S G : oV) : Prop := WR G V 85 (S 18) ∧ VW G (S 18) ∧ MEMO V S G
theorem WR_cg {G : oV} {V : Mem} {w : Nat} {v v' : Int → Int} (h : WR G V w v) (h4 : G 4 0 ≤ 7) (h12 : v 21 ≤ 12) (e : ∀ i : Int, 0 ≤ i → i < 59 → v' i = v i) : WR G V w v' := by
  obtain ⟨a1, a2, a3, a4⟩ := h
  refine ⟨fun p p0 p1 => ?_, by rw [e 21 (by omega) (by omega)]; exact a2, fun k k0 k1 => ?_, by rw [e 58 (by omega) (by omega)]; exact a4⟩
  · rw [e p (by omega) (by omega), e (7 + p) (by omega) (by omega), e (14 + p) (by omega) (by omega)]
    exact a1 p p0 p1
  · rw [e 21 (by omega) (by omega)] at k1
    rw [e (22 + 3 * k) (by omega) (by omega), e (22 + 3 * k + 1) (by omega) (by omega), e (22 + 3 * k + 2) (by omega) (by omega)]
    exact a3 k k0 k1
theorem VW_cg {G : oV} {v v' : Int → Int} (h : VW G v) (h4 : G 4 0 ≤ 7) (e : ∀ i : Int, 0 ≤ i → i < 59 → v' i = v i) : VW G v' := by
  obtain ⟨a1, a2, a3, a4⟩ := h
  refine ⟨fun p p0 p1 => ?_, by rw [e 21 (by omega) (by omega)]; exact a2, by rw [e 58 (by omega) (by omega)]; exact a3, fun k k0 k1 => ?_⟩
  · rw [e p (by omega) (by omega), e (7 + p) (by omega) (by omega), e (14 + p) (by omega) (by omega)]
    exact a1 p p0 p1
  · rw [e 21 (by omega) (by omega)] at k1
    rw [e (22 + 3 * k) (by omega) (by omega), e (22 + 3 * k + 1) (by omega) (by omega), e (22 + 3 * k + 2) (by omega) (by omega)]
    exact a4 k k0 k1
theorem MEMO_ext {V V' : Mem} {S S' G : oV} (h : MEMO V S G) (hv : ∀ a, 99 ≤ a → a < 235 → V' a = V a) (hs : ∀ k, 19 ≤ k → k ≤ 22 → S' k = S k) : MEMO V' S' G := by
  obtain ⟨m1, m2, m3, m4, m5, m6, m7⟩ := h
  have e99 := hv 99 (by omega) (by omega)
  unfold MEMO
  rw [e99, hs 19 (by omega) (by omega), hs 20 (by omega) (by omega), hs 21 (by omega) (by omega), hs 22 (by omega) (by omega)]
  refine ⟨m1, m2, m3, m4, m5, fun i i0 i1 => ?_, fun i i0 i1 => ?_⟩
  · exact ⟨WR_ext (m6 i i0 i1).1 (hv _ (by omega) (by omega)), (m6 i i0 i1).2⟩
  · exact ⟨WR_ext (m7 i i0 i1).1 (hv _ (by omega) (by omega)), (m7 i i0 i1).2⟩
theorem CST_18 {V V' : Mem} {S S' G : oV} (h : CST V S G) (hv : ∀ a, 99 ≤ a → a < 235 → V' a = V a) (hs : ∀ k, 19 ≤ k → k ≤ 22 → S' k = S k) (hw : WR G V' 85 (S' 18)) (hvw : VW G (S' 18)) : CST V' S' G := ⟨hw, hvw, MEMO_ext h.2.2 hv hs⟩
theorem rix {n i : Int} (h0 : 0 ≤ n) (h1 : n < 16) : 99 + 3 + 7 * n.toNat ≠ 99 := by omega
/-- the class's keeping ahead, and the reference's keeping all -/
theorem MEMO_keep {V V1 : Mem} {S G : oV} (h : CST V S G) (h4 : G 4 0 ≤ 7) (h2 : V1 99 2 0 = (V 99 2 0 + 1) % 16) (h3 : V1 99 3 0 = if V 99 3 0 = 16 then 16 else V 99 3 0 + 1) (h5 : V1 99 4 0 = V 99 4 0) (hr : V1 (99 + 3 + 7 * (V 99 2 0).toNat) = wTk (V (99 + 3 + 7 * (V 99 2 0).toNat)) (V 85)) (ho : ∀ a, a ≠ 99 → a ≠ 99 + 3 + 7 * (V 99 2 0).toNat → V1 a = V a) : MEMO V1 (keepF S) G := by
  obtain ⟨hw, hvw, m1, m2, m3, m4, m5, m6, m7⟩ := h
  have h12 := hvw.2.1.2
  have hnew : ∀ v' : Int → Int, (∀ k : Int, 0 ≤ k → k < 59 → v' k = S 18 k) → WR G V1 (99 + 3 + 7 * (V 99 2 0).toNat) v' ∧ VW G v' := fun v' e => by
    refine ⟨?_, VW_cg hvw h4 e⟩
    have := WR_tk (w := 99 + 3 + 7 * (V 99 2 0).toNat) hw
    have h6 : WR G V1 (99 + 3 + 7 * (V 99 2 0).toNat) (S 18) := WR_ext this (by rw [sO_at, hr])
    exact WR_cg h6 h4 h12 e
  have hold : ∀ (j i : Int) (v' : Int → Int), 0 ≤ i → i < S 21 0 → j = (V 99 2 0 + 16 - S 21 0 + i) % 16 → j ≠ V 99 2 0 → (∀ k : Int, 0 ≤ k → k < 59 → v' k = S 19 (59 * i + k)) → WR G V1 (99 + 3 + 7 * j.toNat) v' ∧ VW G v' := fun j i v' i0 i1 ej hj e => by
    obtain ⟨w1, w2⟩ := m6 i i0 i1
    rw [← ej] at w1
    refine ⟨WR_cg (WR_ext w1 (ho _ (by omega) (by omega))) h4 w2.2.1.2 e, VW_cg w2 h4 e⟩
  have hmk : ∀ i : Int, 0 ≤ i → i < S 22 0 → WR G V1 (99 + 115 + 7 * i.toNat) (fun k => S 20 (59 * i + k)) ∧ VW G (fun k => S 20 (59 * i + k)) := fun i i0 i1 => ⟨WR_ext (m7 i i0 i1).1 (ho _ (by omega) (by omega)), (m7 i i0 i1).2⟩
  by_cases ha : S 21 0 = 16
  · have e20 : keepF S 20 = S 20 := by unfold keepF; rw [if_pos ha]; simp [s1, sF]
    have e22 : keepF S 22 = S 22 := by unfold keepF; rw [if_pos ha]; simp [s1, sF]
    have e21 : keepF S 21 0 = 16 := by unfold keepF; rw [if_pos ha]; simp [s1, sF]
    have e19 : keepF S 19 = cpF (shF (S 19) 885) (S 18) 15 59 := by unfold keepF; rw [if_pos ha]; simp [s1, sF]
    unfold MEMO
    rw [e19, e20, e21, e22, h2, h3, h5, m2, if_pos ha]
    refine ⟨by omega, rfl, by omega, m4, m5, fun i i0 i1 => ?_, hmk⟩
    by_cases hi : i = 15
    · have ej : ((V 99 2 0 + 1) % 16 + 16 - 16 + i) % 16 = V 99 2 0 := by omega
      rw [ej]
      refine hnew _ fun k k0 k1 => ?_
      unfold cpF
      rw [if_pos (by omega)]
      congr 1
      omega
    · refine hold _ (i + 1) _ (by omega) (by omega) (by omega) (by omega) fun k k0 k1 => ?_
      unfold cpF shF
      rw [if_neg (by omega), if_pos (by omega)]
      congr 1
      omega
  · have e20 : keepF S 20 = S 20 := by unfold keepF; rw [if_neg ha]; simp [s1, sF]
    have e22 : keepF S 22 = S 22 := by unfold keepF; rw [if_neg ha]; simp [s1, sF]
    have e21 : keepF S 21 0 = S 21 0 + 1 := by unfold keepF; rw [if_neg ha]; simp [s1, sF]
    have e19 : keepF S 19 = cpF (S 19) (S 18) (S 21 0) 59 := by unfold keepF; rw [if_neg ha]; simp [s1, sF]
    unfold MEMO
    rw [e19, e20, e21, e22, h2, h3, h5, m2, if_neg ha]
    refine ⟨by omega, rfl, by omega, m4, m5, fun i i0 i1 => ?_, hmk⟩
    by_cases hi : i = S 21 0
    · have ej : ((V 99 2 0 + 1) % 16 + 16 - (S 21 0 + 1) + i) % 16 = V 99 2 0 := by omega
      rw [ej]
      refine hnew _ fun k k0 k1 => ?_
      unfold cpF
      rw [if_pos (by omega)]
      congr 1
      omega
    · refine hold _ i _ (by omega) (by omega) (by omega) (by omega) fun k k0 k1 => ?_
      unfold cpF
      rw [if_neg (by omega)]
theorem keepF_o {S : oV} {k : Nat} (h : k ≠ 19) (h' : k ≠ 21) : keepF S k = S k := by
  unfold keepF
  split <;> simp [s1, sF, h, h']
section AC
variable {c : cT} {V : Mem} {G S : oV} {R : Option gAV → cT → Mem → Prop}
theorem cq_41 (h : CST V S G) (h4 : G 4 0 ≤ 7) (hq : ∀ V1, (∀ a, a < 99 ∨ 235 ≤ a → V1 a = V a) → CST V1 (keepF S) G → R none c V1) : CC 2 41 [vR (some 99), vR (some 85)] c V R := by
  obtain ⟨hw, hvw, m1, m2, m3, m4, m5, m6, m7⟩ := id h
  refine cc_41 m1.1 m1.2 (by omega) (by omega) (hq _ (fun a ha => ?_) ?_)
  · rw [sM_o (by omega), sM_o (by omega), sO_ne (by omega)]
  · have e85 : sM (sM (sO V (99 + 3 + 7 * (V 99 2 0).toNat) (wTk (V (99 + 3 + 7 * (V 99 2 0).toNat)) (V 85))) 99 2 (fun _ => (V 99 2 0 + 1) % 16)) 99 3 (fun _ => if V 99 3 0 = 16 then 16 else V 99 3 0 + 1) 85 = V 85 := by rw [sM_o (by decide), sM_o (by decide), sO_ne (by omega)]
    refine ⟨by rw [keepF_o (by decide) (by decide)]; exact WR_ext hw e85, by rw [keepF_o (by decide) (by decide)]; exact hvw, ?_⟩
    refine MEMO_keep h h4 ?_ ?_ ?_ ?_ ?_
    · rw [sM_k (by decide), sM_at]
    · rw [sM_at]
    · rw [sM_k (by decide), sM_k (by decide), sO_ne (by omega)]
    · rw [sM_o (by omega), sM_o (by omega), sO_at]
    · intro a a1 a2
      rw [sM_o a1, sM_o a1, sO_ne a2]
/-- the reference's row a of some rows P becomes what is -/
def rowF (P v : Int → Int) (a : Int) : Int → Int := fun i => if 0 ≤ i ∧ i < 59 then P (59 * a + i) else v i
def undF (S : oV) : oV := sF (s1 S 21 (S 21 0 - 1)) 18 (rowF (S 19) (S 18) (S 21 0 - 1))
def bakF (S : oV) (m : Int) : oV := s1 (sF S 18 (rowF (S 20) (S 18) m)) 21 0
def mrkF (S : oV) : oV := s1 (sF S 20 (cpF (S 20) (S 18) (S 22 0) 59)) 22 (S 22 0 + 1)
theorem WR_85 {w : Nat} {v v' : Int → Int} (h : WR G V w v) (h4 : G 4 0 ≤ 7) (h12 : v 21 ≤ 12) (e : ∀ i : Int, 0 ≤ i → i < 59 → v' i = v i) {V1 : Mem} (h85 : V1 85 = wTk (V 85) (V w)) : WR G V1 85 v' := by
  have h6 : WR G V1 85 v := WR_ext (WR_tk (w := 85) h) (by rw [sO_at, h85])
  exact WR_cg h6 h4 h12 e
theorem cq_42 (h : CST V S G) (h4 : G 4 0 ≤ 7) (h1 : ¬ V 99 3 0 = 0) (hq : ∀ V1, (∀ a, a < 85 ∨ 92 ≤ a ∧ a < 99 ∨ 235 ≤ a → V1 a = V a) → CST V1 (undF S) G → R none c V1) : CC 2 42 [vR (some 99), vR (some 85)] c V R := by
  obtain ⟨hw, hvw, m1, m2, m3, m4, m5, m6, m7⟩ := id h
  refine cc_42 m1.1 m1.2 (by omega) (by omega) (hq _ (fun a ha => ?_) ?_)
  · rw [sO_ne (by omega), sM_o (by omega), sM_o (by omega)]
  · have ho : ∀ a, a ≠ 85 → a ≠ 99 → sO (sM (sM V 99 2 (fun _ => (V 99 2 0 + 15) % 16)) 99 3 (fun _ => V 99 3 0 - 1)) 85 (wTk (V 85) (V (99 + 3 + 7 * ((V 99 2 0 + 15) % 16).toNat))) a = V a := fun a a1 a2 => by rw [sO_ne a1, sM_o a2, sM_o a2]
    obtain ⟨w1, w2⟩ := m6 (S 21 0 - 1) (by omega) (by omega)
    have ej : (V 99 2 0 + 16 - S 21 0 + (S 21 0 - 1)) % 16 = (V 99 2 0 + 15) % 16 := by omega
    rw [ej] at w1
    have e18 : undF S 18 = rowF (S 19) (S 18) (S 21 0 - 1) := by simp [undF, sF]
    have er : ∀ i : Int, 0 ≤ i → i < 59 → undF S 18 i = S 19 (59 * (S 21 0 - 1) + i) := fun i i0 i1 => by
      rw [e18]
      unfold rowF
      rw [if_pos ⟨i0, i1⟩]
    refine ⟨WR_85 w1 h4 w2.2.1.2 er (by rw [sO_at]), VW_cg w2 h4 er, ?_⟩
    have e19 : undF S 19 = S 19 := by simp [undF, sF, s1]
    have e20 : undF S 20 = S 20 := by simp [undF, sF, s1]
    have e21 : undF S 21 0 = S 21 0 - 1 := by simp [undF, sF, s1]
    have e22 : undF S 22 = S 22 := by simp [undF, sF, s1]
    have v2 : sO (sM (sM V 99 2 (fun _ => (V 99 2 0 + 15) % 16)) 99 3 (fun _ => V 99 3 0 - 1)) 85 (wTk (V 85) (V (99 + 3 + 7 * ((V 99 2 0 + 15) % 16).toNat))) 99 2 0 = (V 99 2 0 + 15) % 16 := by rw [sO_ne (by decide), sM_k (by decide), sM_at]
    have v3 : sO (sM (sM V 99 2 (fun _ => (V 99 2 0 + 15) % 16)) 99 3 (fun _ => V 99 3 0 - 1)) 85 (wTk (V 85) (V (99 + 3 + 7 * ((V 99 2 0 + 15) % 16).toNat))) 99 3 0 = V 99 3 0 - 1 := by rw [sO_ne (by decide), sM_at]
    have v4 : sO (sM (sM V 99 2 (fun _ => (V 99 2 0 + 15) % 16)) 99 3 (fun _ => V 99 3 0 - 1)) 85 (wTk (V 85) (V (99 + 3 + 7 * ((V 99 2 0 + 15) % 16).toNat))) 99 4 0 = V 99 4 0 := by rw [sO_ne (by decide), sM_k (by decide), sM_k (by decide)]
    generalize sO (sM (sM V 99 2 (fun _ => (V 99 2 0 + 15) % 16)) 99 3 (fun _ => V 99 3 0 - 1)) 85 (wTk (V 85) (V (99 + 3 + 7 * ((V 99 2 0 + 15) % 16).toNat))) = V1 at ho v2 v3 v4 ⊢
    unfold MEMO
    rw [v2, v3, v4, e19, e20, e21, e22, m2]
    refine ⟨by omega, rfl, by omega, m4, m5, fun i i0 i1 => ?_, fun i i0 i1 => ?_⟩
    · obtain ⟨x1, x2⟩ := m6 i i0 (by omega)
      have ek : ((V 99 2 0 + 15) % 16 + 16 - (S 21 0 - 1) + i) % 16 = (V 99 2 0 + 16 - S 21 0 + i) % 16 := by omega
      rw [ek]
      exact ⟨WR_ext x1 (ho _ (by omega) (by omega)), x2⟩
    · exact ⟨WR_ext (m7 i i0 i1).1 (ho _ (by omega) (by omega)), (m7 i i0 i1).2⟩
theorem cq_44 {m : Int} (h : CST V S G) (h4 : G 4 0 ≤ 7) (h0 : 0 ≤ m) (h1 : m < V 99 4 0) (hq : ∀ V1, (∀ a, a < 85 ∨ 92 ≤ a ∧ a < 99 ∨ 235 ≤ a → V1 a = V a) → CST V1 (bakF S m) G → R none c V1) : CC 2 44 [vR (some 99), vI m, vR (some 85)] c V R := by
  obtain ⟨hw, hvw, m1, m2, m3, m4, m5, m6, m7⟩ := id h
  refine cc_44 h0 (by omega) (hq _ (fun a ha => ?_) ?_)
  · rw [sM_o (by omega), sO_ne (by omega)]
  · have ho : ∀ a, a ≠ 85 → a ≠ 99 → sM (sO V 85 (wTk (V 85) (V (99 + 115 + 7 * m.toNat)))) 99 3 (fun _ => 0) a = V a := fun a a1 a2 => by rw [sM_o a2, sO_ne a1]
    obtain ⟨w1, w2⟩ := m7 m h0 (by omega)
    have e18 : bakF S m 18 = rowF (S 20) (S 18) m := by simp [bakF, sF, s1]
    have er : ∀ i : Int, 0 ≤ i → i < 59 → bakF S m 18 i = S 20 (59 * m + i) := fun i i0 i1 => by
      rw [e18]
      unfold rowF
      rw [if_pos ⟨i0, i1⟩]
    refine ⟨WR_85 w1 h4 w2.2.1.2 er (by rw [sM_o (by decide), sO_at]), VW_cg w2 h4 er, ?_⟩
    have e20 : bakF S m 20 = S 20 := by simp [bakF, sF, s1]
    have e21 : bakF S m 21 0 = 0 := by simp [bakF, sF, s1]
    have e22 : bakF S m 22 = S 22 := by simp [bakF, sF, s1]
    have v2 : sM (sO V 85 (wTk (V 85) (V (99 + 115 + 7 * m.toNat)))) 99 3 (fun _ => 0) 99 2 0 = V 99 2 0 := by rw [sM_k (by decide), sO_ne (by decide)]
    have v3 : sM (sO V 85 (wTk (V 85) (V (99 + 115 + 7 * m.toNat)))) 99 3 (fun _ => 0) 99 3 0 = 0 := by rw [sM_at]
    have v4 : sM (sO V 85 (wTk (V 85) (V (99 + 115 + 7 * m.toNat)))) 99 3 (fun _ => 0) 99 4 0 = V 99 4 0 := by rw [sM_k (by decide), sO_ne (by decide)]
    unfold MEMO
    rw [v2, v3, v4, e20, e21, e22]
    refine ⟨m1, rfl, by omega, m4, m5, fun i i0 i1 => by omega, fun i i0 i1 => ?_⟩
    exact ⟨WR_ext (m7 i i0 i1).1 (ho _ (by omega) (by omega)), (m7 i i0 i1).2⟩
theorem cq_43 (h : CST V S G) (h4 : G 4 0 ≤ 7) (h1 : V 99 4 0 < 3) (hq : ∀ V1, (∀ a, a < 99 ∨ 235 ≤ a → V1 a = V a) → CST V1 (mrkF S) G → R (some (vI (S 22 0))) c V1) : CC 2 43 [vR (some 99), vR (some 85)] c V R := by
  obtain ⟨hw, hvw, m1, m2, m3, m4, m5, m6, m7⟩ := id h
  refine cc_43 (by omega) (by omega) ?_
  have ho : ∀ a, a ≠ 99 → a ≠ 99 + 115 + 7 * (V 99 4 0).toNat → sM (sO V (99 + 115 + 7 * (V 99 4 0).toNat) (wTk (V (99 + 115 + 7 * (V 99 4 0).toNat)) (V 85))) 99 4 (fun _ => V 99 4 0 + 1) a = V a := fun a a1 a2 => by rw [sM_o a1, sO_ne a2]
  have v2 : sM (sO V (99 + 115 + 7 * (V 99 4 0).toNat) (wTk (V (99 + 115 + 7 * (V 99 4 0).toNat)) (V 85))) 99 4 (fun _ => V 99 4 0 + 1) 99 2 = V 99 2 := by rw [sM_k (by decide), sO_ne (by omega)]
  have v3 : sM (sO V (99 + 115 + 7 * (V 99 4 0).toNat) (wTk (V (99 + 115 + 7 * (V 99 4 0).toNat)) (V 85))) 99 4 (fun _ => V 99 4 0 + 1) 99 3 = V 99 3 := by rw [sM_k (by decide), sO_ne (by omega)]
  have v4 : sM (sO V (99 + 115 + 7 * (V 99 4 0).toNat) (wTk (V (99 + 115 + 7 * (V 99 4 0).toNat)) (V 85))) 99 4 (fun _ => V 99 4 0 + 1) 99 4 0 = V 99 4 0 + 1 := by rw [sM_at]
  have vr : sM (sO V (99 + 115 + 7 * (V 99 4 0).toNat) (wTk (V (99 + 115 + 7 * (V 99 4 0).toNat)) (V 85))) 99 4 (fun _ => V 99 4 0 + 1) (99 + 115 + 7 * (V 99 4 0).toNat) = wTk (V (99 + 115 + 7 * (V 99 4 0).toNat)) (V 85) := by rw [sM_o (by omega), sO_at]
  have hq' := hq (sM (sO V (99 + 115 + 7 * (V 99 4 0).toNat) (wTk (V (99 + 115 + 7 * (V 99 4 0).toNat)) (V 85))) 99 4 (fun _ => V 99 4 0 + 1)) (fun a ha => ho a (by omega) (by omega))
  have hlt : S 22 0 < 3 := by omega
  rw [m4] at ho v2 v3 v4 vr hq' ⊢
  refine hq' ?_
  generalize sM (sO V (99 + 115 + 7 * (S 22 0).toNat) (wTk (V (99 + 115 + 7 * (S 22 0).toNat)) (V 85))) 99 4 (fun _ => S 22 0 + 1) = V1 at ho v2 v3 v4 vr ⊢
  have e18 : mrkF S 18 = S 18 := by simp [mrkF, sF, s1]
  have e19 : mrkF S 19 = S 19 := by simp [mrkF, sF, s1]
  have e20 : mrkF S 20 = cpF (S 20) (S 18) (S 22 0) 59 := by simp [mrkF, sF, s1]
  have e21 : mrkF S 21 = S 21 := by simp [mrkF, sF, s1]
  have e22 : mrkF S 22 0 = S 22 0 + 1 := by simp [mrkF, sF, s1]
  refine ⟨by rw [e18]; exact WR_ext hw (ho 85 (by decide) (by omega)), by rw [e18]; exact hvw, ?_⟩
  unfold MEMO
  rw [v2, v3, v4, e19, e20, e21, e22]
  refine ⟨m1, m2, m3, rfl, by omega, fun i i0 i1 => ?_, fun i i0 i1 => ?_⟩
  · exact ⟨WR_ext (m6 i i0 i1).1 (ho _ (by omega) (by omega)), (m6 i i0 i1).2⟩
  · by_cases hi : i = S 22 0
    · have er : ∀ k : Int, 0 ≤ k → k < 59 → (fun k => cpF (S 20) (S 18) (S 22 0) 59 (59 * i + k)) k = S 18 k := fun k k0 k1 => by
        show cpF (S 20) (S 18) (S 22 0) 59 (59 * i + k) = S 18 k
        unfold cpF
        rw [if_pos (by omega)]
        congr 1
        omega
      refine ⟨?_, VW_cg hvw h4 er⟩
      have h6 : WR G V1 (99 + 115 + 7 * i.toNat) (S 18) := WR_ext (WR_tk (w := 99 + 115 + 7 * i.toNat) hw) (by rw [sO_at, hi, vr])
      exact WR_cg h6 h4 hvw.2.1.2 er
    · have er : ∀ k : Int, 0 ≤ k → k < 59 → (fun k => cpF (S 20) (S 18) (S 22 0) 59 (59 * i + k)) k = (fun k => S 20 (59 * i + k)) k := fun k k0 k1 => by
        show cpF (S 20) (S 18) (S 22 0) 59 (59 * i + k) = S 20 (59 * i + k)
        unfold cpF
        rw [if_neg (by omega)]
      obtain ⟨x1, x2⟩ := m7 i i0 (by omega)
      exact ⟨WR_cg (WR_ext x1 (ho _ (by omega) (by omega))) h4 x2.2.1.2 er, VW_cg x2 h4 er⟩
end AC
