/-! STATEMENTS: arrays, calls, ways of going on, returns -/
section T2
variable {k : gK} {C : gOrc} {pc p1 p2 p3 pN pB pC pT pF : Nat}
theorem gEs_fst {ty : Nat} {x : Int} {h h' : gH} {r : Option Nat} {i : Int} (he : gEs ty x h r i = some h') : h'.1 = h.1 := by
  obtain ⟨a, n, f, y, -, -, -, -, -, rfl⟩ := gEs_spec he
  rfl
theorem gT_as {ty : Nat} {a : gRE} {i e0 : gIE} (ht : ty = 0 ∨ ty = 1 ∨ ty = 3) (ha : gR k C 0 pc p1 a) (hi : gI k C 1 p1 p2 i) (he0 : gI k C 2 p2 p3 e0) (hd : decode k.1 p3 = .ok (gStI ty, 1)) : gT k C pc (p3 + 1) pB pC (asI ty a i e0) := by
  intro Γ ok f L h ex L' h' he
  simp only [asI, Option.bind_eq_some_iff, Option.some.injEq, Prod.mk.injEq] at he
  obtain ⟨⟨x, h1⟩, e1, ⟨y, h2⟩, e2, ⟨z, h3⟩, e3, h4, e4, rfl, rfl, rfl⟩ := he
  obtain ⟨g1, K1⟩ := ha Γ ok L h x h1 e1
  obtain ⟨g2, K2⟩ := hi Γ ok L h1 y h2 e2
  obtain ⟨g3, K3⟩ := he0 Γ ok L h2 z h3 e3
  have g4 : gLe h3 h4 := gLe.of (gEs_fst e4)
  refine ⟨g1.tr (g2.tr (g3.tr g4)), fun ws tys H locs ls hS hL hm kk => ?_⟩
  refine K1 ws tys H locs ls [] hS hL gCat0 (gRm.le (g2.tr (g3.tr g4)) hm) fun ws1 tys1 H1 locs1 w1 hS1 hx1 hv1 => ?_
  refine K2 ws1 tys1 H1 locs1 ls [w1] hS1 (hL.ext hx1) (by rw [gCat_vR hv1]; exact Nat.le_refl 1) (gRm.le (g3.tr g4) hm) fun ws2 tys2 H2 locs2 w2 hS2 hx2 hv2 => ?_
  refine K3 ws2 tys2 H2 locs2 ls [w2, w1] hS2 (hL.ext (hx1.tr hx2)) (by rw [gCat_vI hv2, gCat_vR hv1]; exact Nat.le_refl 2) (gRm.le g4 hm) fun ws3 tys3 H3 locs3 w3 hS3 hx3 hv3 => ?_
  exact g_ast ht ok hS3 hd e4 hv3 (gVr_ext hx3 hv2) (gVr_ext (hx2.tr hx3) hv1) fun ws4 H4 locs4 hS4 hx4 => kk ws4 tys3 H4 locs4 ls hS4 (hx1.tr (hx2.tr (hx3.tr hx4))) (hL.ext (hx1.tr (hx2.tr (hx3.tr hx4))))
theorem gT_asI {a : gRE} {i e0 : gIE} (ha : gR k C 0 pc p1 a) (hi : gI k C 1 p1 p2 i) (he0 : gI k C 2 p2 p3 e0) (hd : decode k.1 p3 = .ok (.iastore, 1)) : gT k C pc (p3 + 1) pB pC (asI 0 a i e0) := gT_as (Or.inl rfl) ha hi he0 hd
theorem gT_asY {a : gRE} {i e0 : gIE} (ha : gR k C 0 pc p1 a) (hi : gI k C 1 p1 p2 i) (he0 : gI k C 2 p2 p3 e0) (hd : decode k.1 p3 = .ok (.bastore, 1)) : gT k C pc (p3 + 1) pB pC (asI 1 a i e0) := gT_as (Or.inr (Or.inl rfl)) ha hi he0 hd
theorem gT_asB {a : gRE} {i : gIE} {c : gCE} (ha : gR k C 0 pc p1 a) (hi : gI k C 1 p1 p2 i) (he0 : gB k C 2 p2 p3 c) (hd : decode k.1 p3 = .ok (.bastore, 1)) : gT k C pc (p3 + 1) pB pC (asB a i c) := gT_as (Or.inr (Or.inr rfl)) ha hi (gI_of he0) hd
theorem gT_asL {a : gRE} {i e0 : gIE} (ha : gR k C 0 pc p1 a) (hi : gI k C 1 p1 p2 i) (he0 : gJ k C 2 p2 p3 e0) (hd : decode k.1 p3 = .ok (.lastore, 1)) : gT k C pc (p3 + 1) pB pC (asI 2 a i e0) := by
  intro Γ ok f L h ex L' h' he
  simp only [asI, Option.bind_eq_some_iff, Option.some.injEq, Prod.mk.injEq] at he
  obtain ⟨⟨x, h1⟩, e1, ⟨y, h2⟩, e2, ⟨z, h3⟩, e3, h4, e4, rfl, rfl, rfl⟩ := he
  obtain ⟨g1, K1⟩ := ha Γ ok L h x h1 e1
  obtain ⟨g2, K2⟩ := hi Γ ok L h1 y h2 e2
  obtain ⟨g3, K3⟩ := he0 Γ ok L h2 z h3 e3
  have g4 : gLe h3 h4 := gLe.of (gEs_fst e4)
  refine ⟨g1.tr (g2.tr (g3.tr g4)), fun ws tys H locs ls hS hL hm kk => ?_⟩
  refine K1 ws tys H locs ls [] hS hL gCat0 (gRm.le (g2.tr (g3.tr g4)) hm) fun ws1 tys1 H1 locs1 w1 hS1 hx1 hv1 => ?_
  refine K2 ws1 tys1 H1 locs1 ls [w1] hS1 (hL.ext hx1) (by rw [gCat_vR hv1]; exact Nat.le_refl 1) (gRm.le (g3.tr g4) hm) fun ws2 tys2 H2 locs2 w2 hS2 hx2 hv2 => ?_
  refine K3 ws2 tys2 H2 locs2 ls [w2, w1] hS2 (hL.ext (hx1.tr hx2)) (by rw [gCat_vI hv2, gCat_vR hv1]; exact Nat.le_refl 2) (gRm.le g4 hm) fun ws3 tys3 H3 locs3 w3 hS3 hx3 hv3 => ?_
  exact g_astl ok hS3 hd e4 hv3 (gVr_ext hx3 hv2) (gVr_ext (hx2.tr hx3) hv1) fun ws4 H4 locs4 hS4 hx4 => kk ws4 tys3 H4 locs4 ls hS4 (hx1.tr (hx2.tr (hx3.tr hx4))) (hL.ext (hx1.tr (hx2.tr (hx3.tr hx4))))
/-- a new object into an array of references -/
theorem gT_asQ {ty ci m ix ix2 cnt p4 : Nat} {a : gRE} {i : gIE} {fs : List gAV} {as : gAE} {Cn : String} (hq : ∃ q : vw_C, vwCl[ci]? = some q ∧ q.1 = gTq ty) (ha : gR k C 0 pc p1 a) (hi : gI k C 1 p1 p2 i) (hf : gNf ci fs) (hcn : ∃ (T : u_T) (N : Nat), vwCl[ci]? = some (Cn, T, N)) (hcl : Cond.classLink k.2.1 ix Cn ∈ gTw) (hd0 : decode k.1 p2 = .ok (.new ix, 3)) (hd1 : decode k.1 (p2 + 3) = .ok (.dup, 1)) (hv : gNk1 k.2.1 ix2 m cnt) (hag : gAg k C 4 (p2 + 4) p4 cnt as) (hd2 : decode k.1 p4 = .ok (.invokespecial ix2, 3)) (hd : decode k.1 (p4 + 3) = .ok (.aastore, 1)) : gT k C pc (p4 + 3 + 1) pB pC (asQ ty a i (nwR C ci fs m as)) := by
  intro Γ ok f L h ex L' h' he
  simp only [asQ, Option.bind_eq_some_iff, Option.some.injEq, Prod.mk.injEq] at he
  obtain ⟨⟨x, h1⟩, e1, ⟨y, h2⟩, e2, ⟨z, h3⟩, e3, h4, e4, rfl, rfl, rfl⟩ := he
  obtain ⟨g1, K1⟩ := ha Γ ok L h x h1 e1
  obtain ⟨g2, K2⟩ := hi Γ ok L h1 y h2 e2
  obtain ⟨g3, K3⟩ := gR_newP (n := 2) hf hcn hcl hd0 hd1 hv (by decide) hag hd2 Γ ok L h2 z h3 e3
  have g4 : gLe h3 h4 := gLe.of (by obtain ⟨a, n, f, -, -, -, -, rfl⟩ := gEsq_spec e4; rfl)
  refine ⟨g1.tr (g2.tr (g3.tr g4)), fun ws tys H locs ls hS hL hm kk => ?_⟩
  refine K1 ws tys H locs ls [] hS hL gCat0 (gRm.le (g2.tr (g3.tr g4)) hm) fun ws1 tys1 H1 locs1 w1 hS1 hx1 hv1 => ?_
  refine K2 ws1 tys1 H1 locs1 ls [w1] hS1 (hL.ext hx1) (by rw [gCat_vR hv1]; exact Nat.le_refl 1) (gRm.le (g3.tr g4) hm) fun ws2 tys2 H2 locs2 w2 hS2 hx2 hv2 => ?_
  refine K3 ws2 tys2 H2 locs2 ls [w2, w1] hS2 (hL.ext (hx1.tr hx2)) (by rw [gCat_vI hv2, gCat_vR hv1]; exact Nat.le_refl 2) (gRm.le g4 hm) fun ws3 tys3 H3 locs3 w3 hS3 hx3 hv3 hw3 => ?_
  obtain ⟨o, y1, gs, rfl, hw4, hw5⟩ := hw3
  exact g_astq hq ⟨y1, gs, hw4, hw5⟩ ok hS3 hd e4 (gVr_ext hx3 hv2) (gVr_ext (hx2.tr hx3) hv1) fun ws4 H4 locs4 hS4 hx4 => kk ws4 tys3 H4 locs4 ls hS4 (hx1.tr (hx2.tr (hx3.tr hx4))) (hL.ext (hx1.tr (hx2.tr (hx3.tr hx4))))
theorem gCat2 {adK : Nat → Nat} {ws : va_W} {w : Value} {z : Option Nat} (h : gVr adK ws w (vR z)) : w.category = 1 := by
  match z, h with
  | none, h =>
    have h3 : w = .null := h
    subst h3
    rfl
  | some y, h =>
    obtain ⟨x, e, rfl, -⟩ := h
    rfl
/-- one element of an array by what it was -/
theorem gT_auI {a : gRE} {i e0 : gIE} {ins : Instr} {g : Int → Int → Int} (hop : gOp2 ins g) (ha : gR k C 0 pc p1 a) (hi : gI k C 1 p1 p2 i) (hd1 : decode k.1 p2 = .ok (.dup2, 1)) (hd2 : decode k.1 (p2 + 1) = .ok (.iaload, 1)) (he0 : gI k C 3 (p2 + 1 + 1) p3 e0) (hd3 : decode k.1 p3 = .ok (ins, 1)) (hd : decode k.1 (p3 + 1) = .ok (.iastore, 1)) : gT k C pc (p3 + 1 + 1) pB pC (auI 0 g a i e0) := by
  intro Γ ok f L h ex L' h' he
  simp only [auI, Option.bind_eq_some_iff, Option.some.injEq, Prod.mk.injEq] at he
  obtain ⟨⟨x, h1⟩, e1, ⟨y, h2⟩, e2, o, eo, ⟨z, h3⟩, e3, h4, e4, rfl, rfl, rfl⟩ := he
  obtain ⟨g1, K1⟩ := ha Γ ok L h x h1 e1
  obtain ⟨g2, K2⟩ := hi Γ ok L h1 y h2 e2
  obtain ⟨g3, K3⟩ := he0 Γ ok L h2 z h3 e3
  have g4 : gLe h3 h4 := gLe.of (gEs_fst e4)
  refine ⟨g1.tr (g2.tr (g3.tr g4)), fun ws tys H locs ls hS hL hm kk => ?_⟩
  refine K1 ws tys H locs ls [] hS hL gCat0 (gRm.le (g2.tr (g3.tr g4)) hm) fun ws1 tys1 H1 locs1 w1 hS1 hx1 hv1 => ?_
  refine K2 ws1 tys1 H1 locs1 ls [w1] hS1 (hL.ext hx1) (by rw [gCat_vR hv1]; exact Nat.le_refl 1) (gRm.le (g3.tr g4) hm) fun ws2 tys2 H2 locs2 w2 hS2 hx2 hv2 => ?_
  obtain ⟨q, N, ff, rfl, hq, i0, i1, rfl⟩ := gEl_spec eo
  have hv1' := gVr_ext hx2 hv1
  have rd : ∀ v : Int32, v.toInt = ff y → gW Γ H2 locs2 h2 (fun m => F0 m (p2 + 1 + 1) ls (.int v :: w2 :: w1 :: [])) := by
    intro v hvv
    refine K3 ws2 tys2 H2 locs2 ls (.int v :: w2 :: w1 :: []) hS2 (hL.ext (hx1.tr hx2)) (by rw [gCat_i, gCat_vI hv2, gCat_vR hv1]; exact Nat.le_refl 3) (gRm.le g4 hm) fun ws3 tys3 H3 locs3 w3 hS3 hx3 hv3 => ?_
    obtain ⟨i3, rfl, hi3⟩ := hv3
    have fin : ∀ i : Int32, i.toInt = g v.toInt i3.toInt → gW Γ H3 locs3 h3 (fun m => F0 m (p3 + 1) ls (.int i :: w2 :: w1 :: [])) := fun i hi => g_ast (Or.inl rfl) ok hS3 hd e4 ⟨i, rfl, by rw [hi, hvv, hi3]⟩ (gVr_ext hx3 hv2) (gVr_ext (hx2.tr hx3) hv1) fun ws4 H4 locs4 hS4 hx4 => kk ws4 tys3 H4 locs4 ls hS4 (hx1.tr (hx2.tr (hx3.tr hx4))) (hL.ext (hx1.tr (hx2.tr (hx3.tr hx4))))
    obtain ⟨D, adK, adV, A, ⟨p, l, e, R, s, m, args, below, meth, c, Q⟩, b, d⟩ := Γ
    obtain ⟨⟨hx, hb, hml, hown, hts⟩, -⟩ := ok
    exact hop hx hb hd3 v i3 fin
  obtain ⟨D, adK, adV, A, ⟨p, l, e, R, s, m, args, below, meth, c, Q⟩, b, d⟩ := Γ
  obtain ⟨⟨hx, hb, hml, hown, hts⟩, -⟩ := ok
  obtain ⟨hK, hP, hD, hSS, hR, -, -⟩ := id hS2
  obtain ⟨x1, cA, t0, hn, h5, ⟨h6, -⟩ | ⟨-, gg, h6, h7⟩⟩ := gHR_arr hR hq
  · exact absurd h6 (by decide)
  obtain ⟨x', e0, rfl, h8⟩ := hv1'
  rw [h6] at h8
  cases h8
  obtain ⟨j, rfl, hj⟩ := hv2
  obtain ⟨j1, j2, j3⟩ := g_idx hj i0 i1
  refine lv_dup2_11 hx hb hd1 rfl rfl (va_iald hx hb hK hP q t0 h6 h5 j1 hd2 (rd _ ?_))
  rw [← h7 _ j3, j2]
theorem gT_auL {a : gRE} {i e0 : gIE} {ins : Instr} {g : Int → Int → Int} (hop : gOl2 ins g) (ha : gR k C 0 pc p1 a) (hi : gI k C 1 p1 p2 i) (hd1 : decode k.1 p2 = .ok (.dup2, 1)) (hd2 : decode k.1 (p2 + 1) = .ok (.laload, 1)) (he0 : gJ k C 4 (p2 + 1 + 1) p3 e0) (hd3 : decode k.1 p3 = .ok (ins, 1)) (hd : decode k.1 (p3 + 1) = .ok (.lastore, 1)) : gT k C pc (p3 + 1 + 1) pB pC (auI 2 g a i e0) := by
  intro Γ ok f L h ex L' h' he
  simp only [auI, Option.bind_eq_some_iff, Option.some.injEq, Prod.mk.injEq] at he
  obtain ⟨⟨x, h1⟩, e1, ⟨y, h2⟩, e2, o, eo, ⟨z, h3⟩, e3, h4, e4, rfl, rfl, rfl⟩ := he
  obtain ⟨g1, K1⟩ := ha Γ ok L h x h1 e1
  obtain ⟨g2, K2⟩ := hi Γ ok L h1 y h2 e2
  obtain ⟨g3, K3⟩ := he0 Γ ok L h2 z h3 e3
  have g4 : gLe h3 h4 := gLe.of (gEs_fst e4)
  refine ⟨g1.tr (g2.tr (g3.tr g4)), fun ws tys H locs ls hS hL hm kk => ?_⟩
  refine K1 ws tys H locs ls [] hS hL gCat0 (gRm.le (g2.tr (g3.tr g4)) hm) fun ws1 tys1 H1 locs1 w1 hS1 hx1 hv1 => ?_
  refine K2 ws1 tys1 H1 locs1 ls [w1] hS1 (hL.ext hx1) (by rw [gCat_vR hv1]; exact Nat.le_refl 1) (gRm.le (g3.tr g4) hm) fun ws2 tys2 H2 locs2 w2 hS2 hx2 hv2 => ?_
  obtain ⟨q, N, ff, rfl, hq, i0, i1, rfl⟩ := gEl_spec eo
  have hv1' := gVr_ext hx2 hv1
  have rd : ∀ v : Int64, v.toInt = ff y → gW Γ H2 locs2 h2 (fun m => F0 m (p2 + 1 + 1) ls (.long v :: w2 :: w1 :: [])) := by
    intro v hvv
    refine K3 ws2 tys2 H2 locs2 ls (.long v :: w2 :: w1 :: []) hS2 (hL.ext (hx1.tr hx2)) (by rw [gCat_l, gCat_vI hv2, gCat_vR hv1]; exact Nat.le_refl 4) (gRm.le g4 hm) fun ws3 tys3 H3 locs3 w3 hS3 hx3 hv3 => ?_
    obtain ⟨i3, rfl, hi3⟩ := hv3
    have fin : ∀ i : Int64, i.toInt = g v.toInt i3.toInt → gW Γ H3 locs3 h3 (fun m => F0 m (p3 + 1) ls (.long i :: w2 :: w1 :: [])) := fun i hi => g_astl ok hS3 hd e4 ⟨i, rfl, by rw [hi, hvv, hi3]⟩ (gVr_ext hx3 hv2) (gVr_ext (hx2.tr hx3) hv1) fun ws4 H4 locs4 hS4 hx4 => kk ws4 tys3 H4 locs4 ls hS4 (hx1.tr (hx2.tr (hx3.tr hx4))) (hL.ext (hx1.tr (hx2.tr (hx3.tr hx4))))
    obtain ⟨D, adK, adV, A, ⟨p, l, e, R, s, m, args, below, meth, c, Q⟩, b, d⟩ := Γ
    obtain ⟨⟨hx, hb, hml, hown, hts⟩, -⟩ := ok
    exact hop hx hb hd3 v i3 fin
  obtain ⟨D, adK, adV, A, ⟨p, l, e, R, s, m, args, below, meth, c, Q⟩, b, d⟩ := Γ
  obtain ⟨⟨hx, hb, hml, hown, hts⟩, -⟩ := ok
  obtain ⟨hK, hP, hD, hSS, hR, -, -⟩ := id hS2
  obtain ⟨x1, cA, t0, hn, h5, ⟨-, gg, h6, h7⟩ | ⟨h6, -⟩⟩ := gHR_arr hR hq
  · obtain ⟨x', e0, rfl, h8⟩ := hv1'
    rw [h6] at h8
    cases h8
    obtain ⟨j, rfl, hj⟩ := hv2
    obtain ⟨j1, j2, j3⟩ := g_idx hj i0 i1
    refine lv_dup2_11 hx hb hd1 rfl rfl (va_lald hx hb hK hP q t0 h6 h5 j1 hd2 (rd _ ?_))
    rw [← h7 _ j3, j2]
  · exact absurd rfl h6
theorem gT_cV {ix m cnt : Nat} {as : gAE} (hv : gVk k.2.1 ix m cnt) (ha : gAg k C 0 pc p1 (cnt + 1) as) (hd : decode k.1 p1 = .ok (.invokevirtual ix, 3)) : gT k C pc (p1 + 3) pB pC (cV C m as) := by
  intro Γ ok f L h ex L' h' he
  simp only [cV, Option.bind_eq_some_iff] at he
  obtain ⟨⟨vs, h1⟩, e1, he⟩ := he
  split at he
  rotate_left
  · cases he
  rename_i h2 e2
  simp only [Option.some.injEq, Prod.mk.injEq] at he
  obtain ⟨rfl, rfl, rfl⟩ := he
  obtain ⟨g1, hl, K1⟩ := ha Γ ok L h vs h1 e1
  have g2 : gLe h1 h2 := by
    obtain ⟨D, adK, adV, A, ⟨p, l, e, R, s, m0, args, below, meth, c, Q⟩, b, d⟩ := Γ
    obtain ⟨-, -, -, -, -, hC, -⟩ := id ok
    obtain ⟨mi, -, -, g2, -⟩ := hC m vs h1 _ h2 e2
    exact g2
  refine ⟨g1.tr g2, fun ws tys H locs ls hS hL hm kk => ?_⟩
  refine K1 ws tys H locs ls [] hS hL gCat0 (gRm.le g2 hm) fun ws1 tys1 H1 locs1 vals hS1 hx1 hv1 => ?_
  refine g_callV hv ok hS1 (hL.ext hx1) e2 hv1 hl (Nat.zero_le 8) hm hd fun ws2 tys2 H2 locs2 w hS2 hx2 hr2 => ?_
  have hw : w = none := hr2
  subst hw
  exact kk ws2 tys2 H2 locs2 ls hS2 (hx1.tr hx2) (hL.ext (hx1.tr hx2))
theorem gT_cS {ix m cnt : Nat} {as : gAE} (hv : gSk k.2.1 ix m cnt) (ha : gAg k C 0 pc p1 cnt as) (hd : decode k.1 p1 = .ok (.invokestatic ix, 3)) : gT k C pc (p1 + 3) pB pC (cV C m as) := by
  intro Γ ok f L h ex L' h' he
  simp only [cV, Option.bind_eq_some_iff] at he
  obtain ⟨⟨vs, h1⟩, e1, he⟩ := he
  split at he
  rotate_left
  · cases he
  rename_i h2 e2
  simp only [Option.some.injEq, Prod.mk.injEq] at he
  obtain ⟨rfl, rfl, rfl⟩ := he
  obtain ⟨g1, hl, K1⟩ := ha Γ ok L h vs h1 e1
  have g2 : gLe h1 h2 := by
    obtain ⟨D, adK, adV, A, ⟨p, l, e, R, s, m0, args, below, meth, c, Q⟩, b, d⟩ := Γ
    obtain ⟨-, -, -, -, -, hC, -⟩ := id ok
    obtain ⟨mi, -, -, g2, -⟩ := hC m vs h1 _ h2 e2
    exact g2
  refine ⟨g1.tr g2, fun ws tys H locs ls hS hL hm kk => ?_⟩
  refine K1 ws tys H locs ls [] hS hL gCat0 (gRm.le g2 hm) fun ws1 tys1 H1 locs1 vals hS1 hx1 hv1 => ?_
  refine g_callS hv ok hS1 (hL.ext hx1) e2 hv1 hl (Nat.zero_le 8) hm hd fun ws2 tys2 H2 locs2 w hS2 hx2 hr2 => ?_
  have hw : w = none := hr2
  subst hw
  exact kk ws2 tys2 H2 locs2 ls hS2 (hx1.tr hx2) (hL.ext (hx1.tr hx2))
/-- a value is dropped -/
theorem gT_dp {α : Type} {inj : α → gAV} {e0 : gLo → gH → Option (α × gH)} (hcat : ∀ {adK : Nat → Nat} {ws : va_W} {w : Value} {z : α}, gVr adK ws w (inj z) → w.category = 1) (he0 : gEvl inj k C 0 pc p1 e0) (hd : decode k.1 p1 = .ok (.pop, 1)) : gT k C pc (p1 + 1) pB pC (dpI e0) := by
  intro Γ ok f L h ex L' h' he
  simp only [dpI, Option.bind_eq_some_iff, Option.some.injEq, Prod.mk.injEq] at he
  obtain ⟨⟨x, h1⟩, e1, rfl, rfl, rfl⟩ := he
  obtain ⟨g1, K1⟩ := he0 Γ ok L h x h1 e1
  refine ⟨g1, fun ws tys H locs ls hS hL hm kk => ?_⟩
  refine K1 ws tys H locs ls [] hS hL gCat0 hm fun ws1 tys1 H1 locs1 w1 hS1 hx1 hv1 => ?_
  have kk2 := kk ws1 tys1 H1 locs1 ls hS1 hx1 (hL.ext hx1)
  obtain ⟨D, adK, adV, A, ⟨p, l, e, R, s, m, args, below, meth, c, Q⟩, b, d⟩ := Γ
  obtain ⟨⟨hx, hb, hml, hown, hts⟩, -⟩ := ok
  exact lv_pop hx hb hd (hcat hv1) kk2
theorem gCat_i1 {adK : Nat → Nat} {ws : va_W} {w : Value} {z : Int} (h : gVr adK ws w (vI z)) : w.category = 1 := by
  obtain ⟨i, rfl, -⟩ := h
  rfl
theorem gT_dpI {e0 : gIE} (he0 : gI k C 0 pc p1 e0) (hd : decode k.1 p1 = .ok (.pop, 1)) : gT k C pc (p1 + 1) pB pC (dpI e0) := gT_dp gCat_i1 he0 hd
theorem gT_dpB {e0 : gCE} (he0 : gB k C 0 pc p1 e0) (hd : decode k.1 p1 = .ok (.pop, 1)) : gT k C pc (p1 + 1) pB pC (dpI e0) := gT_dp gCat_i1 he0 hd
theorem gT_dpR {e0 : gRE} (he0 : gR k C 0 pc p1 e0) (hd : decode k.1 p1 = .ok (.pop, 1)) : gT k C pc (p1 + 1) pB pC (dpI e0) := gT_dp gCat2 he0 hd
theorem gT_if {c : gCE} {a b : gSt} (hc0 : gC k C 0 pc pT pF c) (ha : gT k C pT pN pB pC a) (hb : gT k C pF pN pB pC b) : gT k C pc pN pB pC (ifS c a b) := by
  intro Γ ok f L h ex L' h' he
  simp only [ifS, Option.bind_eq_some_iff] at he
  obtain ⟨⟨x, h1⟩, e1, he⟩ := he
  obtain ⟨g1, K1⟩ := hc0 Γ ok L h x h1 e1
  cases x with
  | true =>
    obtain ⟨g2, K2⟩ := ha Γ ok f L h1 ex L' h' he
    refine ⟨g1.tr g2, fun ws tys H locs ls hS hL hm kk => ?_⟩
    refine K1 ws tys H locs ls [] hS hL gCat0 (gRm.le g2 hm) fun ws1 tys1 H1 locs1 hS1 hx1 => ?_
    exact K2 ws1 tys1 H1 locs1 ls hS1 (hL.ext hx1) hm fun ws2 tys2 H2 locs2 ls2 hS2 hx2 hL2 => kk ws2 tys2 H2 locs2 ls2 hS2 (hx1.tr hx2) hL2
  | false =>
    obtain ⟨g2, K2⟩ := hb Γ ok f L h1 ex L' h' he
    refine ⟨g1.tr g2, fun ws tys H locs ls hS hL hm kk => ?_⟩
    refine K1 ws tys H locs ls [] hS hL gCat0 (gRm.le g2 hm) fun ws1 tys1 H1 locs1 hS1 hx1 => ?_
    exact K2 ws1 tys1 H1 locs1 ls hS1 (hL.ext hx1) hm fun ws2 tys2 H2 locs2 ls2 hS2 hx2 hL2 => kk ws2 tys2 H2 locs2 ls2 hS2 (hx1.tr hx2) hL2
theorem gT_wh {c : gCE} {b st : gSt} {pS q1 q2 : Nat} (hc0 : gC k C 0 pc pT pN c) (hb : gT k C pT pS pN pS b) (hs : gT k C pS pc q1 q2 st) : gT k C pc pN pB pC (whS c b st) := by
  intro Γ ok f
  induction f with
  | zero => intro L h ex L' h' he; simp [whS] at he
  | succ f ih =>
    intro L h ex L' h' he
    simp only [whS, Option.bind_eq_some_iff] at he
    obtain ⟨⟨x, h1⟩, e1, he⟩ := he
    obtain ⟨g1, K1⟩ := hc0 Γ ok L h x h1 e1
    cases x with
    | false =>
      simp only [Bool.false_eq_true, if_false, Option.some.injEq, Prod.mk.injEq] at he
      obtain ⟨rfl, rfl, rfl⟩ := he
      exact ⟨g1, fun ws tys H locs ls hS hL hm kk => K1 ws tys H locs ls [] hS hL gCat0 hm fun ws1 tys1 H1 locs1 hS1 hx1 => kk ws1 tys1 H1 locs1 ls hS1 hx1 (hL.ext hx1)⟩
    | true =>
      simp only [if_true, Option.bind_eq_some_iff] at he
      obtain ⟨⟨ex2, L2, h2⟩, e2, he⟩ := he
      obtain ⟨g2, K2⟩ := hb Γ ok f L h1 ex2 L2 h2 e2
      -- the step, and round again
      have again : ((st f L2 h2).bind fun z => match z.1 with
          | none => whS c b st f z.2.1 z.2.2
          | some _ => none) = some (ex, L', h') → gLe h2 h' ∧ ∀ (ws : va_W) (tys : gTs) (H : Heap) (locs : List Loc) (ls : Array Slot), gS Γ ws tys h2 H locs → gLR Γ k.2.2.1 ws ls L2 → gRm Γ h' →
          (∀ (ws' : va_W) (tys' : gTs) (H' : Heap) (locs' : List Loc) (ls' : Array Slot), gS Γ ws' tys' h' H' locs' → gExt ws ws' → gLR Γ k.2.2.1 ws' ls' L' → gXt k Γ pN pB pC ex H' locs' h' ls' ws') → gW Γ H locs h2 (fun m => F0 m pS ls []) := by
        intro he
        simp only [Option.bind_eq_some_iff] at he
        obtain ⟨⟨ex3, L3, h3⟩, e3, he⟩ := he
        obtain ⟨g3, K3⟩ := hs Γ ok f L2 h2 ex3 L3 h3 e3
        cases ex3 with
        | some _ => cases he
        | none =>
          obtain ⟨g4, K4⟩ := ih L3 h3 ex L' h' he
          refine ⟨g3.tr g4, fun ws tys H locs ls hS hL hm kk => ?_⟩
          refine K3 ws tys H locs ls hS hL (gRm.le g4 hm) fun ws1 tys1 H1 locs1 ls1 hS1 hx1 hL1 => ?_
          exact K4 ws1 tys1 H1 locs1 ls1 hS1 hL1 hm fun ws2 tys2 H2 locs2 ls2 hS2 hx2 hL2 => kk ws2 tys2 H2 locs2 ls2 hS2 (hx1.tr hx2) hL2
      match ex2, he, K2 with
      | none, he, K2 =>
        obtain ⟨g3, K3⟩ := again he
        refine ⟨g1.tr (g2.tr g3), fun ws tys H locs ls hS hL hm kk => ?_⟩
        refine K1 ws tys H locs ls [] hS hL gCat0 (gRm.le (g2.tr g3) hm) fun ws1 tys1 H1 locs1 hS1 hx1 => ?_
        refine K2 ws1 tys1 H1 locs1 ls hS1 (hL.ext hx1) (gRm.le g3 hm) fun ws2 tys2 H2 locs2 ls2 hS2 hx2 hL2 => ?_
        exact K3 ws2 tys2 H2 locs2 ls2 hS2 hL2 hm fun ws3 tys3 H3 locs3 ls3 hS3 hx3 hL3 => kk ws3 tys3 H3 locs3 ls3 hS3 (hx1.tr (hx2.tr hx3)) hL3
      | some (2, v), he, K2 =>
        obtain ⟨g3, K3⟩ := again he
        refine ⟨g1.tr (g2.tr g3), fun ws tys H locs ls hS hL hm kk => ?_⟩
        refine K1 ws tys H locs ls [] hS hL gCat0 (gRm.le (g2.tr g3) hm) fun ws1 tys1 H1 locs1 hS1 hx1 => ?_
        refine K2 ws1 tys1 H1 locs1 ls hS1 (hL.ext hx1) (gRm.le g3 hm) fun ws2 tys2 H2 locs2 ls2 hS2 hx2 hL2 => ?_
        exact K3 ws2 tys2 H2 locs2 ls2 hS2 hL2 hm fun ws3 tys3 H3 locs3 ls3 hS3 hx3 hL3 => kk ws3 tys3 H3 locs3 ls3 hS3 (hx1.tr (hx2.tr hx3)) hL3
      | some (1, v), he, K2 =>
        cases he
        refine ⟨g1.tr g2, fun ws tys H locs ls hS hL hm kk => ?_⟩
        refine K1 ws tys H locs ls [] hS hL gCat0 (gRm.le g2 hm) fun ws1 tys1 H1 locs1 hS1 hx1 => ?_
        exact K2 ws1 tys1 H1 locs1 ls hS1 (hL.ext hx1) hm fun ws2 tys2 H2 locs2 ls2 hS2 hx2 hL2 => kk ws2 tys2 H2 locs2 ls2 hS2 (hx1.tr hx2) hL2
      | some (0, v), he, K2 =>
        cases he
        refine ⟨g1.tr g2, fun ws tys H locs ls hS hL hm kk => ?_⟩
        refine K1 ws tys H locs ls [] hS hL gCat0 (gRm.le g2 hm) fun ws1 tys1 H1 locs1 hS1 hx1 => ?_
        exact K2 ws1 tys1 H1 locs1 ls hS1 (hL.ext hx1) hm fun ws2 tys2 H2 locs2 ls2 hS2 hx2 hL2 => trivial
      | some (3, v), he, K2 =>
        cases he
        refine ⟨g1.tr g2, fun ws tys H locs ls hS hL hm kk => ?_⟩
        refine K1 ws tys H locs ls [] hS hL gCat0 (gRm.le g2 hm) fun ws1 tys1 H1 locs1 hS1 hx1 => ?_
        exact K2 ws1 tys1 H1 locs1 ls hS1 (hL.ext hx1) hm fun ws2 tys2 H2 locs2 ls2 hS2 hx2 hL2 => kk ws2 tys2 H2 locs2 ls2 hS2 (hx1.tr hx2) hL2
      | some (j + 4, v), he, K2 =>
        cases he
        refine ⟨g1.tr g2, fun ws tys H locs ls hS hL hm kk => ?_⟩
        refine K1 ws tys H locs ls [] hS hL gCat0 (gRm.le g2 hm) fun ws1 tys1 H1 locs1 hS1 hx1 => ?_
        exact K2 ws1 tys1 H1 locs1 ls hS1 (hL.ext hx1) hm fun ws2 tys2 H2 locs2 ls2 hS2 hx2 hL2 => trivial
theorem gT_br {off : Int} {q : Nat} (hd : decode k.1 pc = .ok (.goto off, 3)) (ht : (pc : Int) + off = (q : Int)) : gT k C pc pN q pC brS := by
  intro Γ ok f L h ex L' h' he
  simp only [brS, Option.some.injEq, Prod.mk.injEq] at he
  obtain ⟨rfl, rfl, rfl⟩ := he
  refine ⟨gLe.rf, fun ws tys H locs ls hS hL hm kk => ?_⟩
  have kk2 := kk ws tys H locs ls hS gExt.rf hL
  obtain ⟨D, adK, adV, A, ⟨p, l, e, R, s, m, args, below, meth, c, Q⟩, b, d⟩ := Γ
  obtain ⟨⟨hx, hb, hml, hown, hts⟩, -⟩ := ok
  exact lv_goto hx hb hd ht kk2
theorem gT_br0 : gT k C pc pN pc pC brS := by
  intro Γ ok f L h ex L' h' he
  simp only [brS, Option.some.injEq, Prod.mk.injEq] at he
  obtain ⟨rfl, rfl, rfl⟩ := he
  exact ⟨gLe.rf, fun ws tys H locs ls hS hL hm kk => kk ws tys H locs ls hS gExt.rf hL⟩
theorem gT_cn {off : Int} {q : Nat} (hd : decode k.1 pc = .ok (.goto off, 3)) (ht : (pc : Int) + off = (q : Int)) : gT k C pc pN pB q cnS := by
  intro Γ ok f L h ex L' h' he
  simp only [cnS, Option.some.injEq, Prod.mk.injEq] at he
  obtain ⟨rfl, rfl, rfl⟩ := he
  refine ⟨gLe.rf, fun ws tys H locs ls hS hL hm kk => ?_⟩
  have kk2 := kk ws tys H locs ls hS gExt.rf hL
  obtain ⟨D, adK, adV, A, ⟨p, l, e, R, s, m, args, below, meth, c, Q⟩, b, d⟩ := Γ
  obtain ⟨⟨hx, hb, hml, hown, hts⟩, -⟩ := ok
  exact lv_goto hx hb hd ht kk2
theorem gT_cn0 : gT k C pc pN pB pc cnS := by
  intro Γ ok f L h ex L' h' he
  simp only [cnS, Option.some.injEq, Prod.mk.injEq] at he
  obtain ⟨rfl, rfl, rfl⟩ := he
  exact ⟨gLe.rf, fun ws tys H locs ls hS hL hm kk => kk ws tys H locs ls hS gExt.rf hL⟩
theorem gT_rt {α : Type} {inj : α → gAV} {e0 : gLo → gH → Option (α × gH)} {ins : Instr} (hi : ∀ a, gRi (some (inj a)) = ins) (he0 : gEvl inj k C 0 pc p1 e0) (hd : decode k.1 p1 = .ok (ins, 1)) : gT k C pc pN pB pC (fun _ L h => (e0 L h).bind fun x => some (some (3, some (inj x.1)), L, x.2)) := by
  intro Γ ok f L h ex L' h' he
  simp only [Option.bind_eq_some_iff, Option.some.injEq, Prod.mk.injEq] at he
  obtain ⟨⟨x, h1⟩, e1, rfl, rfl, rfl⟩ := he
  obtain ⟨g1, K1⟩ := he0 Γ ok L h x h1 e1
  refine ⟨g1, fun ws tys H locs ls hS hL hm kk => ?_⟩
  refine K1 ws tys H locs ls [] hS hL gCat0 hm fun ws1 tys1 H1 locs1 w1 hS1 hx1 hv1 => ?_
  exact kk ws1 tys1 H1 locs1 ls hS1 hx1 (hL.ext hx1) (some w1) p1 ls ⟨w1, rfl, hv1⟩ (by rw [hi]; exact hd)
theorem gT_rtI {e0 : gIE} (he0 : gI k C 0 pc p1 e0) (hd : decode k.1 p1 = .ok (.ireturn, 1)) : gT k C pc pN pB pC (rtI e0) := gT_rt (fun _ => rfl) he0 hd
theorem gT_rtB {e0 : gCE} (he0 : gB k C 0 pc p1 e0) (hd : decode k.1 p1 = .ok (.ireturn, 1)) : gT k C pc pN pB pC (rtB e0) := gT_rt (fun _ => rfl) he0 hd
theorem gT_rtL {e0 : gIE} (he0 : gJ k C 0 pc p1 e0) (hd : decode k.1 p1 = .ok (.lreturn, 1)) : gT k C pc pN pB pC (rtL e0) := gT_rt (fun _ => rfl) he0 hd
theorem gT_rtR {e0 : gRE} (he0 : gR k C 0 pc p1 e0) (hd : decode k.1 p1 = .ok (.areturn, 1)) : gT k C pc pN pB pC (rtR e0) := gT_rt (fun _ => rfl) he0 hd
theorem gT_rtV (hd : decode k.1 pc = .ok (.return_, 1)) : gT k C pc pN pB pC rtV := by
  intro Γ ok f L h ex L' h' he
  simp only [rtV, Option.some.injEq, Prod.mk.injEq] at he
  obtain ⟨rfl, rfl, rfl⟩ := he
  exact ⟨gLe.rf, fun ws tys H locs ls hS hL hm kk => kk ws tys H locs ls hS gExt.rf hL none pc ls rfl hd⟩
/-- Object's constructor -/
theorem gT_ob {ix : Nat} (h1 : Cond.methodLink k.2.1 ix Lib.objectInit ∈ gTw) (h2 : Cond.instanceMethod Lib.objectInit ∈ gTw) (h3 : Cond.code Lib.objectInit ⟨#[0xb1]⟩ 1 none ∈ gTw) {e0 : gRE} (hn : ∀ L h x h', e0 L h = some (x, h') → ∃ y, x = some y) (he0 : gR k C 0 pc p1 e0) (hd : decode k.1 p1 = .ok (.invokespecial ix, 3)) : gT k C pc (p1 + 3) pB pC (dpI e0) := by
  intro Γ ok f L h ex L' h' he
  simp only [dpI, Option.bind_eq_some_iff, Option.some.injEq, Prod.mk.injEq] at he
  obtain ⟨⟨x, h1⟩, e1, rfl, rfl, rfl⟩ := he
  obtain ⟨g1, K1⟩ := he0 Γ ok L h x h1 e1
  refine ⟨g1, fun ws tys H locs ls hS hL hm kk => ?_⟩
  refine K1 ws tys H locs ls [] hS hL gCat0 hm fun ws1 tys1 H1 locs1 w1 hS1 hx1 hv1 => ?_
  have kk2 := kk ws1 tys1 H1 locs1 ls hS1 hx1 (hL.ext hx1)
  obtain ⟨D, adK, adV, A, ⟨p, l, e, R, s, m, args, below, meth, c, Q⟩, b, d⟩ := Γ
  obtain ⟨⟨hx, hb, hml, hown, hts⟩, hA, hfr, hlo, -⟩ := ok
  obtain ⟨y, rfl⟩ := hn _ _ _ _ e1
  obtain ⟨z, e9, rfl, -⟩ := hv1
  exact W.objInit hx hb hown (hts _ (by assumption)) (hts _ h2) (hts _ h3) rfl (hL.1.trans hml.symm) rfl hd (by omega) (by simp; omega) kk2
end T2
