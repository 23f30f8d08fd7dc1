/-! STEPS of the law out of calls; led's step -/
theorem step_two {c : cT} {V : Mem} {n d mx mm : Nat} {as : List gAV} {h : gH} (hn : nB ≤ n) (hd : 60 ≤ d) (hg : GC c V mx mm as) (H : mH c V h) : ∃ h' c' V', gTwo (gOr n d) 0 305 mx mm as h = some h' ∧ mH c' V' h' ∧ cLE c c' ∧ RC c' V' := by
  obtain ⟨_, h1, c1, V1, e1, H1, -, x, rfl, hg2⟩ := hg n d h hn hd H
  obtain ⟨_, h2, c2, V2, e2, H2, -, rfl, hl, hr⟩ := hg2 n d h1 hn hd H1
  refine ⟨h2, c2, V2, ?_, H2, hl, hr⟩
  unfold gTwo
  rw [e1]
  simp only [vI]
  rw [show gOr n d mm (vR (some 305) :: as) h1 = some (some (vI x), h2) from e2]
  simp [vI]
theorem RC_c {c c' : cT} {V : Mem} (h : RC c V) (e : c'.1 = c.1) : RC c' V := by
  unfold RC mG at h ⊢
  rw [e]
  exact h
theorem RC_tap3 {c : cT} {V V2 : Mem} (h : RC c V) (ho : ∀ a, a ≠ 0 → a ≠ 305 → a ≠ 330 → V2 a = V a) (h0 : ∀ k, k ≠ 0 → k ≠ 1 → V2 0 k = V 0 k) (h5 : ∀ k, k ≠ 0 → k ≠ 5 → k ≠ 6 → V2 305 k = V 305 k) (ht : TPE V2 (V2 305)) : RC c V2 := by
  obtain ⟨c1, c2, g, hP, -, htr, hz⟩ := h
  have hgv := hP.1
  refine ⟨c1, c2, g, ⟨hP.1, by rw [h0 2 (by decide) (by decide)]; exact hP.2.1, by rw [h0 3 (by decide) (by decide)]; exact hP.2.2⟩, ht, ?_, ?_⟩
  · unfold TRB at htr ⊢
    rw [h0 15 (by decide) (by decide), h5 1 (by decide) (by decide) (by decide), h5 2 (by decide) (by decide) (by decide), ho 84 (by decide) (by decide) (by decide)]
    exact htr
  · rcases hz with ⟨hz, hn⟩ | ⟨m, hmg, hm3, ⟨l1, l2, l3, l4, l5, l6⟩, hd, hx⟩
    · refine Or.inl ⟨by rw [h5 3 (by decide) (by decide) (by decide)]; exact hz, ?_⟩
      unfold NG at hn ⊢
      rw [ho g (by omega) (by omega) (by omega), ho 85 (by decide) (by decide) (by decide), ho 99 (by decide) (by decide) (by decide), ho 279 (by decide) (by decide) (by decide), h0 14 (by decide) (by decide), ho 236 (by decide) (by decide) (by decide)]
      exact hn
    · have em : V2 m = V m := ho m (by omega) (by omega) (by omega)
      have e18 : V2 305 18 = V 305 18 := h5 18 (by decide) (by decide) (by decide)
      refine Or.inr ⟨m, ⟨by rw [h5 3 (by decide) (by decide) (by decide)]; exact hmg.1, hmg.2⟩, hm3, ?_⟩
      rw [em]
      refine ⟨⟨l1, GR_ext l2 (ho g (by omega) (by omega) (by omega)) (fun p hp => ho _ (by omega) (by omega) (by omega)) l1.2.2.2.2.1.2, by rw [e18]; exact WR_ext l3 (ho 85 (by decide) (by decide) (by decide)), by rw [e18]; exact l4, MEMO_ext l5 (fun a a0 a1 => ho a (by omega) (by omega) (by omega)) (fun k k0 k1 => h5 k (by omega) (by omega) (by omega)), by rw [ho 299 (by decide) (by decide) (by decide)]; exact l6⟩, CDy_eq hd (ho _ (by decide) (by decide) (by decide)) (ho _ (by decide) (by decide) (by decide)) (h0 14 (by decide) (by decide)) e18, CX_eq hx (ho _ (by decide) (by decide) (by decide)) e18⟩
theorem RC_330 {c : cT} {V V2 : Mem} (h : RC c V) (ho : ∀ a, a ≠ 330 → V2 a = V a) : RC c V2 := by
  refine RC_tap3 h (fun a a0 a1 a2 => ho a a2) (fun k k0 k1 => by rw [ho 0 (by decide)]) (fun k k0 k5 k6 => by rw [ho 305 (by decide)]) ?_
  obtain ⟨-, -, g, -, ht, -⟩ := h
  unfold TPE at ht ⊢
  rw [ho 305 (by decide), ho 0 (by decide), ho 84 (by decide)]
  exact ht
theorem mH_bump {c : cT} {V : Mem} {h : gH} (H : mH c V h) : mH (c.1, c.2.1 + 1, c.2.2 + 6) V (gBump h) := by
  obtain ⟨h1, h2, h3⟩ := H
  subst h1
  exact ⟨rfl, h2, h3⟩
theorem mH_es {c : cT} {V : Mem} {h : gH} (H : mH c V h) (v : Int) : ∃ h3, gEs 2 v h (some 330) 0 = some h3 ∧ mH c (sO V 330 (fun _ _ => v)) h3 := by
  obtain ⟨h1, h2, g, g1, g2⟩ := id H
  refine ⟨(h.1, gUp h.2 330 (some (oA 2 1 (gUz g 0 v)))), ?_, h1, fun a ci ha => ?_, gUz g 0 v, by simp [gUp], by rw [sO_at, gUz_at]⟩
  · simp only [gEs, g1]
    rfl
  · have ha' : mcl h.1.1 a = some ci := ha
    have n1 : a ≠ 330 := fun e => by rw [e, mcl_330] at ha'; cases ha'
    rw [sO_ne n1]
    obtain ⟨fs, k1, k2, k3⟩ := h2 a ci ha'
    refine ⟨fs, by simp only [gUp]; rw [if_neg n1]; exact k1, k2, fun k t hk => ⟨(k3 k t hk).1, fun q => ?_⟩⟩
    have e1 := (ow_arr ha' hk q).1
    simp only [gUp]
    rw [if_neg (fun e => n1 (by rw [e, ow_330] at e1; exact e1.symm))]
    exact (k3 k t hk).2 q
theorem RC_lf {c : cT} {V V1 : Mem} {g m : Nat} (h : RC c V) (hm : mG c V m) (hm3 : 331 ≤ m) (hgl : GL V (V 305) (V m) g) (hl : LF V V1) (ht : TDY V1 (V 305) (V m) g) : RC c V1 := by
  obtain ⟨c1, c2, g', hP', htp, htr, -⟩ := h
  have h5 : V1 305 = V 305 := hl.1 305 (by decide) (by decide) (by decide)
  have hv : V1 m = V m := hl.1 m (by omega) (by omega) (by omega)
  have h9 : V1 279 = V 279 := hl.1 279 (by decide) (by decide) (by decide)
  refine ⟨c1, c2, g, ht.1, ?_, ?_, Or.inr ⟨m, ⟨by rw [h5]; exact hm.1, hm.2⟩, hm3, ?_⟩⟩
  · unfold TPE at htp ⊢
    rw [h5, hl.2 0 (by decide), hl.2 1 (by decide), hl.1 84 (by decide) (by decide) (by decide)]
    exact htp
  · unfold TRB at htr ⊢
    rw [h5, hl.2 15 (by decide), hl.1 84 (by decide) (by decide) (by decide)]
    exact htr
  · rw [h5, hv]
    exact ⟨ht.2.1, ht.2.2, CX_eq hgl.2.2 h9 rfl⟩
theorem gEl_330 {c : cT} {V : Mem} {h : gH} (H : mH c V h) : gEl 2 h (some 330) 0 = some (V 330 0 0) := by
  obtain ⟨-, -, g, g1, g2⟩ := H
  simp only [gEl, g1]
  rw [← g2]
  rfl
theorem step_led {c : cT} {V : Mem} {n d : Nat} {p : Int} {h : gH} (hp : p ≤ 2147483647) (hn : nB ≤ n) (hd : 60 ≤ d) (hr : RC c V) (H : mH c V h) : ∃ h' c' V', gLdS (gOr n d) n 0 305 330 p h = some h' ∧ mH c' V' h' ∧ cLE c c' ∧ RC c' V' := by
  have hcl : cLE c (c.1, c.2.1 + 1, c.2.2 + 6) := ⟨by show c.2.1 + 1 ≤ c.2.1 + 25; omega, by show c.2.2 + 6 ≤ c.2.2 + 2000; omega⟩
  have eL : gEnt 4 [vR (some 0), vI p] = [some (vR (some 0)), some (vI p), none, none] := rfl
  obtain ⟨c1, c2, g, hP, htp, htr, ⟨hz, hng⟩ | ⟨m, hm, hm3, hgl⟩⟩ := id hr
  · obtain ⟨ex, L', h1, c', V', e, H1, l1, rfl, rfl, rfl⟩ := led_n (i := p) (d := d) hn hP hng.1.2.2.2.2.1 h H
    have H2 := mH_bump H1
    have hr2 : RC (c'.1, c'.2.1 + 1, c'.2.2 + 6) V' := RC_c hr rfl
    have h299 := qz_299 (c := (c'.1, c'.2.1 + 1, c'.2.2 + 6)) (i := p) hz (R := fun r c2 V2 => r = some (vI 0) ∧ c2 = (c'.1, c'.2.1 + 1, c'.2.2 + 6) ∧ V2 = sM (sM V' 305 0 (fun _ => 0)) 305 0 (fun _ => 1)) ⟨rfl, rfl, rfl⟩
    obtain ⟨_, h3, _, _, e3, H3, -, rfl, rfl, rfl⟩ := h299 n d (gBump h1) hn (by omega) H2
    obtain ⟨h4, e4, H4⟩ := pc_171 n d h3 hn (by omega) H3
    refine ⟨h4, _, _, ?_, H4, hcl, RC_thr (RC_thr hr2)⟩
    have eg : gLed (gOr n d) n 0 330 p h = some (1, gBump h1) := by
      unfold gLed
      rw [eL, e]
      exact if_pos l1
    unfold gLdS
    rw [eg]
    simp only
    rw [e3]
    simp only [vI]
    rw [show gOr n d 171 [vR (some 305)] h3 = some (some (vI (sM (sM V' 305 0 (fun _ => 0)) 305 0 (fun _ => 1) 305 0 0)), h4) from e4]
    rw [sM_at]
    simp [vI]
  · have hT : TDY V (V 305) (V m) g := ⟨hP, hgl.1, hgl.2.1⟩
    obtain ⟨ex, L', h1, c', V', e, H1, l1, rfl, hl, hT1, hcase⟩ := led_c (i := p) (d := d) (c := c) hp hn (by omega) hT h H
    have h5 : V' 305 = V 305 := hl.1 305 (by decide) (by decide) (by decide)
    have hv : V' m = V m := hl.1 m (by omega) (by omega) (by omega)
    have hr1 := RC_lf hr hm hm3 hgl hl hT1
    have hr2 : RC (c'.1, c'.2.1 + 1, c'.2.2 + 6) V' := RC_c hr1 rfl
    have H2 := mH_bump H1
    rcases hcase with ⟨rfl, hno⟩ | ⟨rfl, hge⟩
    · have h299 := qm_299 (c := (c'.1, c'.2.1 + 1, c'.2.2 + 6)) (V := V') (g := m) (i := p) (R := fun r c2 V2 => r = some (vI 0) ∧ c2 = (c'.1, c'.2.1 + 1, c'.2.2 + 6) ∧ V2 305 0 0 = 1 ∧ RC c2 V2) ⟨by rw [h5]; exact hm.1, hm.2⟩ (by rw [hv]; exact hgl.1.1) (by rw [hv, h5]; exact hgl.1.2.2.2.1) (fun W w1 w2 w3 => ⟨fun q => by rw [hv, h5, hno] at q; omega, fun _ q => ⟨rfl, rfl, q, RC_me hr2 w1 (by rw [w2]) (by rw [w3])⟩⟩)
      obtain ⟨_, h3, _, V3, e3, H3, -, rfl, rfl, q3, hr3⟩ := h299 n d (gBump h1) hn (by omega) H2
      obtain ⟨h4, e4, H4⟩ := pc_171 n d h3 hn (by omega) H3
      refine ⟨h4, _, _, ?_, H4, hcl, hr3⟩
      have eg : gLed (gOr n d) n 0 330 p h = some (1, gBump h1) := by
        unfold gLed
        rw [eL, e]
        exact if_pos l1
      unfold gLdS
      rw [eg]
      simp only
      rw [e3]
      simp only [vI]
      rw [show gOr n d 171 [vR (some 305)] h3 = some (some (vI (V3 305 0 0)), h4) from e4]
      rw [q3]
      simp [vI]
    · obtain ⟨h2', e2', H2'⟩ := mH_es H2 (ledF (sinP (V m) (V 305)) p (V m 4 0).toNat)
      have hr3 : RC (c'.1, c'.2.1 + 1, c'.2.2 + 6) (sO V' 330 (fun _ _ => ledF (sinP (V m) (V 305)) p (V m 4 0).toNat)) := RC_330 hr2 fun a ha => sO_ne ha
      have h5' : sO V' 330 (fun _ _ => ledF (sinP (V m) (V 305)) p (V m 4 0).toNat) 305 = V 305 := by rw [sO_ne (by decide)]; exact h5
      have hv' : sO V' 330 (fun _ _ => ledF (sinP (V m) (V 305)) p (V m 4 0).toNat) m = V m := by rw [sO_ne (by omega)]; exact hv
      have h330 : sO V' 330 (fun _ _ => ledF (sinP (V m) (V 305)) p (V m 4 0).toNat) 330 0 0 = ledF (sinP (V m) (V 305)) p (V m 4 0).toNat := by rw [sO_at]
      generalize sO V' 330 (fun _ _ => ledF (sinP (V m) (V 305)) p (V m 4 0).toNat) = X at *
      have h299 := qm_299 (c := (c'.1, c'.2.1 + 1, c'.2.2 + 6)) (V := X) (g := m) (i := p) (R := fun r c2 V2 => r = some (vI (ledF (sinP (V m) (V 305)) p (V m 4 0).toNat)) ∧ c2 = (c'.1, c'.2.1 + 1, c'.2.2 + 6) ∧ V2 305 0 0 = 0 ∧ V2 330 0 0 = ledF (sinP (V m) (V 305)) p (V m 4 0).toNat ∧ RC c2 V2) ⟨by rw [h5']; exact hm.1, hm.2⟩ (by rw [hv']; exact hgl.1.1) (by rw [hv', h5']; exact hgl.1.2.2.2.1) (fun W w1 w2 w3 => ⟨fun _ q => ⟨by rw [hv', h5'], rfl, q, by rw [w1.1 330 (by decide)]; exact h330, RC_me hr3 w1 (by rw [w2]) (by rw [w3])⟩, fun q => by rw [hv', h5'] at q; omega⟩)
      obtain ⟨_, h3, _, V3, e3, H3, -, rfl, rfl, q3, q4, hr4⟩ := h299 n d h2' hn (by omega) H2'
      obtain ⟨h4, e4, H4⟩ := pc_171 n d h3 hn (by omega) H3
      refine ⟨h4, _, _, ?_, H4, hcl, hr4⟩
      have eg : gLed (gOr n d) n 0 330 p h = some (0, h2') := by
        unfold gLed
        rw [eL, e]
        simp only [vI]
        rw [if_pos (show h.1.1 ≤ h1.1.1 ∧ h.1.2.1 ≤ h1.1.2.1 ∧ h.1.2.2 ≤ h1.1.2.2 from l1)]
        show (gEs 2 (ledF (sinP (V m) (V 305)) p (V m 4 0).toNat) (gBump h1) (some 330) 0).bind _ = _
        rw [e2']
        rfl
      unfold gLdS
      rw [eg]
      simp only
      rw [e3]
      simp only [vI]
      rw [show gOr n d 171 [vR (some 305)] h3 = some (some (vI (V3 305 0 0)), h4) from e4]
      rw [q3]
      simp only [vI, if_true]
      rw [gEl_330 H4, q4]
      simp
