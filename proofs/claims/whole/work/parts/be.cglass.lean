/-! THE CLASS'S glass() -/
theorem mcl_gl {c g : Nat} (hg : g = 2 ∨ g = 43) : mcl c g = some 4 := by
  rcases hg with rfl | rfl <;> rfl
theorem it_wB {G T : oV} : ∀ {n : Nat} {p : Int}, 0 ≤ p → p < (n : Int) → it (wB1 G) n T 0 p = G 9 p ∧ it (wB1 G) n T 1 p = G 10 p ∧ it (wB1 G) n T 2 p = G 13 p
  | 0, p, h0, h1 => by omega
  | n + 1, p, h0, h1 => by
    show wB1 G n (it (wB1 G) n T) 0 p = G 9 p ∧ wB1 G n (it (wB1 G) n T) 1 p = G 10 p ∧ wB1 G n (it (wB1 G) n T) 2 p = G 13 p
    by_cases e : p = (n : Int)
    · subst e
      refine ⟨?_, ?_, ?_⟩ <;> simp [wB1, u1, sF, gUz]
    · obtain ⟨a1, a2, a3⟩ := it_wB (G := G) (T := T) (n := n) h0 (by omega)
      refine ⟨?_, ?_, ?_⟩
      · simpa [wB1, u1, sF, gUz, e] using a1
      · simpa [wB1, u1, sF, gUz, e] using a2
      · simpa [wB1, u1, sF, gUz, e] using a3
theorem wBg_k {G T : oV} : wBg G T 3 0 = 0 ∧ wBg G T 7 0 = 0 ∧ ∀ p, 0 ≤ p → p < G 4 0 → wBg G T 0 p = G 9 p ∧ wBg G T 1 p = G 10 p ∧ wBg G T 2 p = G 13 p := by
  refine ⟨by simp [wBg, s1, sF], by simp [wBg, s1, sF], fun p p0 p1 => ?_⟩
  have q := it_wB (G := G) (T := T) (n := (G 4 0).toNat) p0 (by omega)
  simpa [wBg, s1, sF] using q
section CGL
variable {c : cT} {V : Mem} {g : Nat} {R : Option gAV → cT → Mem → Prop} {t : Int → Int} {N : Int}
theorem cc_89 {P : oV × (Int × Int)} {F : Int × Int} (hg2 : g = 2 ∨ g = 43) (hgl : V 0 2 0 = (g : Int)) (hsp : V 0 3 0 = ((45 - g : Nat) : Int)) (t6 : 0 ≤ V 0 1 0 ∧ V 0 1 0 ≤ 1000) (tb : ∀ i : Int, 0 ≤ i → i < 1000 → V 0 0 i = t i ∧ -128 ≤ t i ∧ t i ≤ 127) (hP : P = prA t N (N.toNat + 1) zG (0, 0)) (hF : F = prF t N P)
    (hq1 : ¬ (0 ≤ N ∧ N ≤ V 0 1 0) → R (some (vI (-1))) c (sM V 0 15 (fun _ => 2)))
    (hq2 : 0 ≤ N ∧ N ≤ V 0 1 0 → F.1 ≠ 0 → ∀ W : Mem, (∀ a, a ≠ 0 → a ≠ 84 → a < 45 - g ∨ 45 - g + 41 ≤ a → W a = V a) → (∀ k, k ≠ 1 → k ≠ 15 → W 0 k = V 0 k) → W 0 1 0 = 0 → W 0 15 0 = 4 → W 84 9 0 = F.1 → W 84 10 0 = F.2 → R (some (vI (-1))) c W)
    (hq3 : 0 ≤ N ∧ N ≤ V 0 1 0 → F.1 = 0 → ∀ W : Mem, (∀ a, 300 ≤ a → W a = V a) → W 0 0 = V 0 0 → W 0 1 0 = 0 → W 0 2 0 = ((45 - g : Nat) : Int) → W 0 3 0 = (g : Int) → W 0 14 0 = 0 → W 0 15 0 = 0 → W 84 9 0 = 0 → GR W (45 - g) P.1 → W 85 = wBg P.1 (V 85) → W 99 2 = V 99 2 → W 99 3 0 = 0 → W 99 4 0 = 0 → W 279 3 0 = 0 → PT P.1 (W 299 2 0) (W 299 1) → R (some (vI (P.1 4 0))) c W) : CC 14 89 [vR (some 0), vI N] c V R := by
  obtain ⟨g', hg'⟩ : ∃ g', g' = 45 - g := ⟨_, rfl⟩
  rw [← hg'] at hsp hq2 hq3
  have hg2' : g' = 2 ∨ g' = 43 := by omega
  have g00 : g' ≠ 0 := by omega
  refine CC_of mt_89 gb_89 (by decide) (by decide) (rcb_o k_0) (Nat.le_of_ble_eq_true rfl) fun n dd hn hd => ?_
  show WW (bX11_glass (gOr n dd)) n [some (vR (some (0))), some (vI (N)), none] _ _ _
  unfold bX11_glass
  have hn0 : 1000000000 ≤ n := hn
  have p1 := PE_fI (ci := 11) (k := 1) (c := c) (V := V) (L := [some (vR (some 0)), some (vI N), none]) rfl (PE_lR (i := 0) rfl) k_0
  have pn : PE (lI 1) [some (vR (some 0)), some (vI N), none] c V N := PE_lI rfl
  have pc := PE_or (PE_cz (op := .lt) pn) (fun _ => PE_cm (op := .gt) pn p1)
  by_cases hc : 0 ≤ N ∧ N ≤ V 0 1 0
  rotate_left
  · have eb : (cmB ClassFile.Cond.lt N 0 || cmB ClassFile.Cond.gt N (V 0 1 0)) = true := by
      simp only [cmB, Bool.or_eq_true, decide_eq_true_eq]
      omega
    rw [eb] at pc
    exact WW_se (WW_if pc (fun _ => WW_rtE (EE_cIx hn (EE_pe (PE_aCR (PE_lR rfl) (PE_aCI PE_kI PE_a0)) (cc_144 ⟨_, rfl, SQ_s ⟨_, rfl, rfl, hq1 hc⟩⟩)) (by omega : 1 ≤ dd))) (fun q => by cases q))
  have hq2 := hq2 hc
  have hq3 := hq3 hc
  have eb : (cmB ClassFile.Cond.lt N 0 || cmB ClassFile.Cond.gt N (V 0 1 0)) = false := by
    simp only [cmB, Bool.or_eq_false_iff, decide_eq_false_iff_not]
    omega
  rw [eb] at pc
  refine WW_se (WW_if pc (fun q => by cases q) (fun _ => WW_sk (SQ_n ?_)))
  clear pc eb pn p1 hq1
  refine WW_se (WW_pf rfl (PE_lR rfl) k_0 PE_kI (SQ_n ?_))
  obtain ⟨A, hA⟩ : ∃ A, A = sM V 0 1 (fun _ => (0 : Int)) := ⟨_, rfl⟩
  rw [← hA]
  have A1 : A 0 1 0 = 0 := by rw [hA, sM_at]
  have Ak : ∀ k, k ≠ 1 → A 0 k = V 0 k := fun k hk => by rw [hA, sM_k hk]
  have Aa : ∀ a, a ≠ 0 → A a = V a := fun a ha => by rw [hA, sM_o ha]
  clear hA
  have tA : TX t N (A 0 0) := ⟨⟨hc.1, by omega⟩, fun i i0 i1 => by rw [Ak 0 (by decide)]; exact tb i i0 i1⟩
  refine WW_se (WW_ifE (EE_not (EE_cB (PE_aCR (PE_fC rfl (PE_lR rfl) k_0) (PE_aCI (PE_lI rfl) (PE_aCR (PE_fP rfl (PE_lR rfl) k_0 (g := g') (by rw [Ak 3 (by decide)]; exact hsp)) PE_a0))) hn (cc_56 (t := t) (N := N) (g := g') hg2' (mcl_gl hg2') (mcl_pe hg2') tA fun W hW h9 h0 => ⟨_, rfl, fun hb => ?_, fun hb => ?_⟩) (by omega : 12 ≤ dd))))
  · rw [← hP, ← hF] at h9 hb
    have e : F.1 ≠ 0 := by simpa using hb
    obtain ⟨w9, w10⟩ := h9 e
    refine WW_rtE (EE_cIx hn (EE_pe (PE_aCR (PE_lR rfl) (PE_aCI PE_kI PE_a0)) (cc_144 ⟨_, rfl, SQ_s ⟨_, rfl, rfl, ?_⟩⟩)) (by omega : 1 ≤ dd))
    have e0 : W 0 = A 0 := hW 0 (by decide) (by omega)
    refine hq2 e _ (fun a a0 a1 a2 => ?_) (fun k k1 k2 => ?_) ?_ ?_ ?_ ?_
    · rw [sM_o a0, hW a a1 a2]; exact Aa a a0
    · rw [sM_k k2, e0]; exact Ak k k1
    · rw [sM_k (by decide), e0]; exact A1
    · rw [sM_at]
    · rw [sM_o (by decide)]; exact w9
    · rw [sM_o (by decide)]; exact w10
  rw [← hP, ← hF] at h0 hb
  have e : F.1 = 0 := by simpa using hb
  obtain ⟨w9, dW⟩ := h0 e
  have hq3 := hq3 e
  have hGW : GW P.1 := by
    rw [hP]
    refine GW_pr hc.1 ?_
    rw [← hP, ← hF]
    exact e
  have w00 : W 0 = A 0 := hW 0 (by decide) (by omega)
  clear h9 h0 hq2 hb hP hF
  refine WW_sk (SQ_n ?_)
  refine WW_se (WW_stR (PE_fP rfl (PE_lR rfl) k_0 (g := g) (by rw [w00, Ak 2 (by decide)]; exact hgl)) (SQ_n ?_))
  refine WW_se (WW_pfP rfl (PE_lR rfl) k_0 (PE_fP rfl (PE_lR rfl) k_0 (g := g') (by rw [w00, Ak 3 (by decide)]; exact hsp)) (SQ_n ?_))
  refine WW_se (WW_pfP (g := g) rfl (PE_lR rfl) k_0 (PE_lR rfl) (SQ_n ?_))
  obtain ⟨U, hU⟩ : ∃ U, U = sM (sM W 0 2 (fun _ => (g' : Int))) 0 3 (fun _ => (g : Int)) := ⟨_, rfl⟩
  rw [← hU]
  have U2 : U 0 2 0 = (g' : Int) := by rw [hU, sM_k (by decide), sM_at]
  have U3 : U 0 3 0 = (g : Int) := by rw [hU, sM_at]
  have Uk : ∀ k, k ≠ 2 → k ≠ 3 → U 0 k = A 0 k := fun k k2 k3 => by rw [hU, sM_k k3, sM_k k2, w00]
  have Ua : ∀ a, a ≠ 0 → U a = W a := fun a ha => by rw [hU, sM_o ha, sM_o ha]
  clear hU
  have grU : GR U g' P.1 := GR_ext (DRA_GR dW hGW.1.2) (Ua g' g00) (fun p _ => Ua _ (by omega)) hGW.2.2.2.2.1.2
  refine WW_se (WW_cV (PE_aCR (PE_fC rfl (PE_lR rfl) k_0) (PE_aCR (PE_fP rfl (PE_lR rfl) k_0 (g := g') U2) PE_a0)) hn (cc_83 (w := 85) (g := g') k_85 (mcl_gl hg2') (mcl_pe hg2') grU hGW ⟨rfl, SQ_n ?_⟩) (by omega : 1 ≤ dd))
  have e85 : U 85 = V 85 := by rw [Ua 85 (by decide), hW 85 (by decide) (by omega), Aa 85 (by decide)]
  rw [e85]
  obtain ⟨B, hB⟩ : ∃ B, B = sO U 85 (wBg P.1 (V 85)) := ⟨_, rfl⟩
  rw [← hB]
  have B85 : B 85 = wBg P.1 (V 85) := by rw [hB, sO_at]
  have Ba : ∀ a, a ≠ 85 → B a = U a := fun a ha => by rw [hB, sO_ne ha]
  clear hB
  refine WW_se (WW_cV (PE_aCR (PE_fC rfl (PE_lR rfl) k_0) PE_a0) hn (cc_40 ⟨rfl, SQ_n ?_⟩) (by omega : 1 ≤ dd))
  obtain ⟨D, hD⟩ : ∃ D, D = sM (sM B 99 3 (fun _ => (0 : Int))) 99 4 (fun _ => (0 : Int)) := ⟨_, rfl⟩
  rw [← hD]
  have D3 : D 99 3 0 = 0 := by rw [hD, sM_k (by decide), sM_at]
  have D4 : D 99 4 0 = 0 := by rw [hD, sM_at]
  have D2 : D 99 2 = B 99 2 := by rw [hD, sM_k (by decide), sM_k (by decide)]
  have Da : ∀ a, a ≠ 99 → D a = B a := fun a ha => by rw [hD, sM_o ha, sM_o ha]
  clear hD
  have D0 : D 0 = U 0 := by rw [Da 0 (by decide), Ba 0 (by decide)]
  have grD : GR D g' P.1 := GR_ext grU (by rw [Da g' (by omega), Ba g' (by omega)]) (fun p _ => by rw [Da _ (by omega), Ba _ (by omega)]) hGW.2.2.2.2.1.2
  refine WW_se (WW_cV (PE_aCR (PE_fC rfl (PE_lR rfl) k_0) (PE_aCR (PE_fP rfl (PE_lR rfl) k_0 (g := g') (by rw [D0]; exact U2)) PE_a0)) hn (cc_46 (g := g') (mcl_gl hg2') grD (mcl_pe hg2') hGW fun E hE hPT => ⟨rfl, SQ_n ?_⟩) (by omega : 12 ≤ dd))
  refine WW_se (WW_cV (PE_aCR (PE_lR rfl) PE_a0) hn (cc_158 ⟨rfl, SQ_n ?_⟩) (by omega : 1 ≤ dd))
  obtain ⟨H, hH⟩ : ∃ H, H = sM (sM E 0 14 (fun _ => (0 : Int))) 279 3 (fun _ => (0 : Int)) := ⟨_, rfl⟩
  rw [← hH]
  have H14 : H 0 14 0 = 0 := by rw [hH, sM_o (by decide), sM_at]
  have H279 : H 279 3 0 = 0 := by rw [hH, sM_at]
  have Hk : ∀ k, k ≠ 14 → H 0 k = U 0 k := fun k hk => by rw [hH, sM_o (by decide), sM_k hk, hE 0 (by decide), D0]
  have Ha : ∀ a, a ≠ 0 → a ≠ 279 → H a = E a := fun a a0 a1 => by rw [hH, sM_o a1, sM_o a0]
  clear hH
  have Hd : ∀ a, a ≠ 0 → a ≠ 279 → a ≠ 299 → H a = D a := fun a a0 a1 a2 => by rw [Ha a a0 a1, hE a a2]
  have grH : GR H g' P.1 := GR_ext grD (Hd g' (by omega) (by omega) (by omega)) (fun p _ => Hd _ (by omega) (by omega) (by omega)) hGW.2.2.2.2.1.2
  have p4 := PE_fI (ci := 4) (k := 4) (c := c) (V := H) (L := [some (vR (some 0)), some (vI N), some (vR (some g))]) rfl (PE_fP (ci := 11) (k := 2) rfl (PE_lR (i := 0) rfl) k_0 (g := g') (by rw [Hk 2 (by decide)]; exact U2)) (mcl_gl hg2')
  rw [grH.1.2.2.2.2.1] at p4
  refine WW_rtE (EE_cIx hn (EE_pe (PE_aCR (PE_lR rfl) (PE_aCI p4 PE_a0)) (cc_143 ⟨_, rfl, ⟨_, rfl, rfl, ?_⟩⟩)) (by omega : 1 ≤ dd))
  have far : ∀ a, a ≠ 0 → a ≠ 84 → a ≠ 85 → a ≠ 99 → a ≠ 279 → a ≠ 299 → a < g' ∨ g' + 41 ≤ a → H a = V a := fun a a0 a1 a2 a3 a4 a5 a6 => by rw [Hd a a0 a4 a5, Da a a3, Ba a a2, Ua a a0, hW a a1 a6, Aa a a0]
  refine hq3 _ (fun a ha => ?_) ?_ ?_ ?_ ?_ ?_ ?_ ?_ ?_ ?_ ?_ ?_ ?_ ?_ ?_
  · rw [sM_o (by omega)]; exact far a (by omega) (by omega) (by omega) (by omega) (by omega) (by omega) (by omega)
  · rw [sM_k (by decide), Hk 0 (by decide), Uk 0 (by decide) (by decide), Ak 0 (by decide)]
  · rw [sM_k (by decide), Hk 1 (by decide), Uk 1 (by decide) (by decide)]; exact A1
  · rw [sM_k (by decide), Hk 2 (by decide)]; exact U2
  · rw [sM_k (by decide), Hk 3 (by decide)]; exact U3
  · rw [sM_k (by decide)]; exact H14
  · rw [sM_at]
  · rw [sM_o (by decide), Hd 84 (by decide) (by decide) (by decide), Da 84 (by decide), Ba 84 (by decide), Ua 84 (by decide)]; exact w9
  · exact GR_ext grH (sM_o g00) (fun p _ => sM_o (by omega)) hGW.2.2.2.2.1.2
  · rw [sM_o (by decide), Hd 85 (by decide) (by decide) (by decide), Da 85 (by decide)]; exact B85
  · rw [sM_o (by decide), Hd 99 (by decide) (by decide) (by decide), D2, Ba 99 (by decide), Ua 99 (by decide), hW 99 (by decide) (by omega), Aa 99 (by decide)]
  · rw [sM_o (by decide), Hd 99 (by decide) (by decide) (by decide)]; exact D3
  · rw [sM_o (by decide), Hd 99 (by decide) (by decide) (by decide)]; exact D4
  · rw [sM_o (by decide)]; exact H279
  · rw [sM_o (by decide), Ha 299 (by decide) (by decide)]; exact hPT
end CGL
