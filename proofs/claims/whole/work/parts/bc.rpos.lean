/-! THE READING'S END: a flaw's number isn't negative; a text well read tells a glass -/
section PO
variable {t : Int → Int} {N : Int} {G : oV} {s : Int × Int}
def nFl (s : Int × Int) : Prop := 0 ≤ s.1
theorem nFl_fl {f : Int} (hf : 0 ≤ f) (h : nFl s) : nFl (flw t N s f) := by
  unfold flw
  split
  · exact hf
  · exact h
theorem nFl_gO (h : nFl s) : nFl (gOn t N s) := by
  unfold nFl
  rw [gOn_1]
  exact h
theorem nFl_it {P : Prop} [Decidable P] {a b : Int × Int} (h1 : nFl a) (h2 : nFl b) : nFl (if P then a else b) := by
  split
  · exact h1
  · exact h2
theorem nFl_nds {w : Int} (h : nFl s) : nFl (nds t N s w) := nFl_gO (nFl_it h (nFl_fl (by decide) h))
theorem nFl_ndC (h : nFl s) : nFl (ndC t N s) := nFl_gO (nFl_it h (nFl_fl (by decide) h))
theorem nFl_bnS {lo hi : Int} (h : nFl s) : nFl (bnS t N s lo hi) := nFl_it (nFl_it h (nFl_fl (by decide) h)) (nFl_fl (by decide) h)
theorem nFl_rdS {lo hi : Int} (h : nFl s) : nFl (rdS t N s lo hi) := nFl_gO (nFl_bnS h)
theorem nFl_bgS {a b : Int} (h : nFl s) : nFl (bgS t N G s a b) := by
  unfold bgS
  dsimp only
  have h1 : nFl (if a = b then flw t N s 5 else s) := nFl_it (nFl_fl (by decide) h) h
  exact nFl_gO (nFl_it (nFl_fl (by decide) h1) h1)
theorem nFl_knS (h : nFl s) : nFl (knS t N G s) := by
  unfold knS
  dsimp only
  have h1 : nFl (if nameB t N s = true then s else flw t N s 1) := nFl_it h (nFl_fl (by decide) h)
  exact nFl_it (nFl_fl (by decide) h1) h1
theorem nFl_ln (h : nFl s) : nFl (lnS t N G s) := by
  refine nFl_it ?_ (nFl_it ?_ (nFl_it ?_ (nFl_it ?_ (nFl_it ?_ (nFl_it ?_ (nFl_fl (by decide) h))))))
  · have h0 : nFl (gA t N G s) := nFl_gO (nFl_it (nFl_fl (by decide) h) h)
    have h1 : nFl (gA1 t N G s) := nFl_rdS (nFl_nds h0)
    have h2 : nFl (gA2 t N G s) := nFl_rdS (nFl_nds h1)
    have h3 : nFl (gA3 t N G s) := nFl_rdS (nFl_nds h2)
    exact nFl_rdS (nFl_nds h3)
  · have hA : nFl (pA t N G s) := nFl_bgS h
    have hB0 : nFl (pB0 t N G s) := nFl_it hA (nFl_fl (by decide) hA)
    have hB : nFl (pB t N G s) := nFl_it (nFl_fl (by decide) hB0) hB0
    have hC : nFl (pC t N G s) := nFl_gO hB
    have hD : nFl (pD t N G s) := nFl_gO (nFl_it (nFl_fl (by decide) hC) hC)
    have hE : nFl (pE t N G s) := nFl_nds hD
    have hF : nFl (pF t N G s) := nFl_gO (nFl_it (nFl_fl (by decide) hE) hE)
    have hG : nFl (pG t N G s) := nFl_nds hF
    have hH : nFl (pH t N G s) := nFl_it (nFl_fl (by decide) hG) hG
    have hI : nFl (pI t N G s) := nFl_it (nFl_fl (by decide) hH) hH
    have hJ : nFl (pJ t N G s) := nFl_gO hI
    have hK : nFl (pK t N G s) := nFl_rdS (nFl_nds hJ)
    have hL : nFl (pL t N G s) := nFl_rdS (nFl_nds hK)
    have hM : nFl (pM t N G s) := nFl_nds hL
    exact nFl_gO (nFl_it (nFl_fl (by decide) hM) hM)
  · have hA : nFl (aA t N G s) := nFl_bgS h
    have hK : nFl (knS t N G (aA t N G s)) := nFl_knS hA
    have hB : nFl (aBk t N G s) := by
      unfold aBk
      dsimp only
      exact nFl_gO (nFl_it (nFl_fl (by decide) hK) hK)
    have hC : nFl (aC t N G s) := nFl_rdS hB
    have hD : nFl (aD t N G s) := nFl_nds hC
    exact nFl_rdS hD
  · have hA : nFl (mA t N G s) := nFl_bgS h
    have hB : nFl (mB t N G s) := nFl_rdS hA
    have hC : nFl (mC t N G s) := nFl_rdS hB
    have hD : nFl (mD2 t N G s) := nFl_ndC hC
    have hE : nFl (bnS t N (mD2 t N G s) 0 (G 1 0 - 1)) := nFl_bnS hD
    show nFl (mE t N G s)
    unfold mE
    dsimp only
    exact nFl_gO (nFl_it (nFl_fl (by decide) hE) hE)
  · have hA : nFl (qA t N G s) := nFl_bgS h
    have hB : nFl (qB t N G s) := nFl_rdS hA
    have hC : nFl (qC t N G s) := nFl_it (nFl_fl (by decide) hB) hB
    have hD : nFl (qD t N G s) := nFl_it (nFl_fl (by decide) hC) hC
    have hE : nFl (qE t N G s) := nFl_it (nFl_fl (by decide) hD) hD
    exact nFl_gO hE
  · have hA : nFl (yA t N G s) := nFl_bgS h
    have hB : nFl (yB t N G s) := nFl_gO (nFl_knS hA)
    have hC : nFl (yC t N G s) := nFl_rdS hB
    exact nFl_rdS hC
theorem nFl_pr : ∀ {n : Nat} {G : oV} {s : Int × Int}, nFl s → nFl (prA t N n G s).2
  | 0, _, _, h => h
  | n + 1, G, s, h => by
    have ep : prA t N (n + 1) G s = if smB t N (lnS t N G s) = true then prA t N n (lnZ t N G s) (gOn t N (lnS t N G s)) else (lnZ t N G s, lnS t N G s) := rfl
    rw [ep]
    by_cases hb : smB t N (lnS t N G s) = true
    · rw [if_pos hb]
      exact nFl_pr (nFl_gO (nFl_ln h))
    · rw [if_neg hb]
      exact nFl_ln h
theorem nFl_prF {r : oV × (Int × Int)} (h : nFl r.2) : nFl (prF t N r) := by
  have h1 : nFl (prE t N r) := nFl_it h (nFl_fl (by decide) h)
  exact nFl_it (nFl_fl (by decide) h1) h1
theorem GV_pr : ∀ {n : Nat} {G : oV} {s : Int × Int}, GV G → (s.1 = 0 → 0 ≤ s.2 ∧ s.2 ≤ N) → (prA t N n G s).2.1 = 0 → GV (prA t N n G s).1
  | 0, _, _, h, _, _ => h
  | n + 1, G, s, h, hs, e => by
    have ep : prA t N (n + 1) G s = if smB t N (lnS t N G s) = true then prA t N n (lnZ t N G s) (gOn t N (lnS t N G s)) else (lnZ t N G s, lnS t N G s) := rfl
    rw [ep] at e ⊢
    by_cases hb : smB t N (lnS t N G s) = true
    · rw [if_pos hb] at e ⊢
      have kk := smB_k hb
      have s0 := (mo_ln kk.1).1
      have h12 := hs s0
      have hm := mo_sm hb h12.1 h12.2 mo_ln
      exact GV_pr (GV_ln h hs kk.1) (fun _ => ⟨by have := hm.2.1; omega, hm.2.2⟩) e
    · rw [if_neg hb] at e ⊢
      exact GV_ln h hs e
theorem prF_0 {r : oV × (Int × Int)} (e : (prF t N r).1 = 0) : r.2.1 = 0 ∧ r.1 4 0 ≠ 0 := by
  have hPE : (prE t N r).1 = 0 ∧ r.1 4 0 ≠ 0 := by
    unfold prF at e
    by_cases z : r.1 4 0 = 0
    · rw [if_pos z] at e; exact absurd e (flw_1 (by decide))
    · rw [if_neg z] at e; exact ⟨e, z⟩
  refine ⟨?_, hPE.2⟩
  have q := hPE.1
  unfold prE at q
  by_cases z : r.2.1 = 0 ∧ kdF t N r.2.2 = 1
  · exact z.1
  · rw [if_neg z] at q; exact absurd q (flw_1 (by decide))
theorem GW_pr {n : Nat} (hN : 0 ≤ N) (e : (prF t N (prA t N n zG (0, 0))).1 = 0) : GW (prA t N n zG (0, 0)).1 := by
  obtain ⟨e1, e4⟩ := prF_0 e
  exact GV_GW (GV_pr (GV_0 (fun _ _ => rfl)) (fun _ => ⟨by show (0 : Int) ≤ 0; omega, hN⟩) e1) e4
end PO
