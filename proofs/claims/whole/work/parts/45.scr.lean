/-! THE SCRIPT: expressions that read it; calls with such arguments -/
/-- the script at sb: len ints, no cell of the world -/
def gScr (Γ : gG) (sb : Nat) (xs : Nat → Int32) (len : Nat) : Prop := match Γ with
  | (_, _, _, A, (_, _, _, _, s, _, _, _, _, _, _), _, _) => va_X sb len xs s s.heap ∧ sb < s.heap.size ∧ ¬ A sb
def gEvX {α : Type} (inj : α → gAV) (k : gK) (C : gOrc) (sb : Nat) (xs : Nat → Int32) (len n pc pc' : Nat) (e : gLo → gH → Option (α × gH)) : Prop := ∀ Γ : gG, gOK k C Γ → gScr Γ sb xs len → ∀ (L : gLo) (h : gH) (a : α) (h' : gH), e L h = some (a, h') → gLe h h' ∧ ∀ (ws : va_W) (tys : gTs) (H : Heap) (locs : List Loc) (ls : Array Slot) (rest : List Value), ls[0]? = some (.val (.ref sb)) → gS Γ ws tys h H locs → gLR Γ k.2.2.1 ws ls L → gCat rest ≤ n → gRm Γ h' →
  (∀ (ws' : va_W) (tys' : gTs) (H' : Heap) (locs' : List Loc) (w : Value), gS Γ ws' tys' h' H' locs' → gExt ws ws' → gVr Γ.2.1 ws' w (inj a) → gW Γ H' locs' h' (fun m => F0 m pc' ls (w :: rest))) → gW Γ H locs h (fun m => F0 m pc ls rest)
def gAgX (k : gK) (C : gOrc) (sb : Nat) (xs : Nat → Int32) (len n pc pc' cnt : Nat) (as : gAE) : Prop := ∀ Γ : gG, gOK k C Γ → gScr Γ sb xs len → ∀ (L : gLo) (h : gH) (vs : List gAV) (h' : gH), as L h = some (vs, h') → gLe h h' ∧ vs.length = cnt ∧ ∀ (ws : va_W) (tys : gTs) (H : Heap) (locs : List Loc) (ls : Array Slot) (rest : List Value), ls[0]? = some (.val (.ref sb)) → gS Γ ws tys h H locs → gLR Γ k.2.2.1 ws ls L → gCat rest ≤ n → gRm Γ h' →
  (∀ (ws' : va_W) (tys' : gTs) (H' : Heap) (locs' : List Loc) (vals : List Value), gS Γ ws' tys' h' H' locs' → gExt ws ws' → gArgs Γ.2.1 ws' vals vs → gW Γ H' locs' h' (fun m => F0 m pc' ls (vals.reverse ++ rest))) → gW Γ H locs h (fun m => F0 m pc ls rest)
def scI (xs : Nat → Int32) (len : Nat) (i : gIE) : gIE := fun L h => (i L h).bind fun x => if 0 ≤ x.1 ∧ x.1 < len then some ((xs x.1.toNat).toInt, x.2) else none
section X1
variable {k : gK} {C : gOrc} {sb : Nat} {xs : Nat → Int32} {len n pc p1 p2 : Nat}
theorem gX_of {α : Type} {inj : α → gAV} {e : gLo → gH → Option (α × gH)} (he : gEvl inj k C n pc p1 e) : gEvX inj k C sb xs len n pc p1 e := by
  intro Γ ok _ L h a h' hh
  obtain ⟨g1, K1⟩ := he Γ ok L h a h' hh
  exact ⟨g1, fun ws tys H locs ls rest _ hS hL hc hm kk => K1 ws tys H locs ls rest hS hL hc hm kk⟩
theorem gX_sc {i : gIE} (hd0 : decode k.1 pc = .ok (.aload_n 0, 1)) (hi : gI k C (n + 1) (pc + 1) p2 i) (hd : decode k.1 p2 = .ok (.iaload, 1)) : gEvX vI k C sb xs len n pc (p2 + 1) (scI xs len i) := by
  intro Γ ok hsc L h a h' hh
  simp only [scI, Option.bind_eq_some_iff] at hh
  obtain ⟨⟨y, h1⟩, e1, hh⟩ := hh
  split at hh
  rotate_left
  · cases hh
  rename_i hy
  simp only [Option.some.injEq, Prod.mk.injEq] at hh
  obtain ⟨rfl, rfl⟩ := hh
  obtain ⟨g1, K1⟩ := hi Γ ok L h y h1 e1
  refine ⟨g1, fun ws tys H locs ls rest hl0 hS hL hc hm kk => ?_⟩
  have step := K1 ws tys H locs ls (.ref sb :: rest) hS hL (by rw [gCat_r]; omega) hm fun ws1 tys1 H1 locs1 w1 hS1 hx1 hv1 => ?_
  · obtain ⟨D, adK, adV, A, ⟨p, l, e, R, s, m, args, below, meth, c, Q⟩, b, d⟩ := Γ
    obtain ⟨⟨hx, hb, hml, hown, hts⟩, -⟩ := ok
    exact lv_aload_n hx hb hd0 rfl hl0 step
  · obtain ⟨D, adK, adV, A, ⟨p, l, e, R, s, m, args, below, meth, c, Q⟩, b, d⟩ := Γ
    obtain ⟨⟨hx, hb, hml, hown, hts⟩, -⟩ := ok
    obtain ⟨hX, hlt, hnA⟩ := hsc
    obtain ⟨hK, hP, hD, hSS, hR, -, -⟩ := id hS1
    obtain ⟨j, rfl, hj⟩ := hv1
    obtain ⟨j1, j2, j3⟩ := g_idx hj hy.1 hy.2
    have ej : j.toNatClampNeg = y.toNat := by omega
    refine va_sld hx hb hX hlt hnA hSS j1 hd ?_
    rw [ej]
    exact kk ws1 tys1 H1 locs1 _ hS1 hx1 ⟨_, rfl, rfl⟩
theorem gAgX_nil : gAgX k C sb xs len n pc pc 0 a0 := by
  intro Γ ok _ L h vs h' he
  simp only [a0, Option.some.injEq, Prod.mk.injEq] at he
  obtain ⟨rfl, rfl⟩ := he
  exact ⟨gLe.rf, rfl, fun ws tys H locs ls rest _ hS hL hc hm kk => kk ws tys H locs [] hS gExt.rf gArgs_nil⟩
theorem gAgX_cons {α : Type} {inj : α → gAV} {cnt m : Nat} {e : gLo → gH → Option (α × gH)} {r : gAE} (hcat : ∀ {adK : Nat → Nat} {ws : va_W} {w : Value} {z : α} {rest : List Value}, gVr adK ws w (inj z) → gCat (w :: rest) = gCat rest + m) (he : gEvX inj k C sb xs len n pc p1 e) (hr : gAgX k C sb xs len (n + m) p1 p2 cnt r) : gAgX k C sb xs len n pc p2 (cnt + 1) (fun L h => (e L h).bind fun x => (r L x.2).bind fun y => some (inj x.1 :: y.1, y.2)) := by
  intro Γ ok hsc L h vs h' hh
  simp only [Option.bind_eq_some_iff, Option.some.injEq, Prod.mk.injEq] at hh
  obtain ⟨⟨x, h1⟩, e1, ⟨ys, h2⟩, e2, rfl, rfl⟩ := hh
  obtain ⟨g1, K1⟩ := he Γ ok hsc L h x h1 e1
  obtain ⟨g2, hl, K2⟩ := hr Γ ok hsc L h1 ys h2 e2
  refine ⟨g1.tr g2, by simp [hl], fun ws tys H locs ls rest h0 hS hL hc hm kk => ?_⟩
  refine K1 ws tys H locs ls rest h0 hS hL hc (gRm.le g2 hm) fun ws1 tys1 H1 locs1 w1 hS1 hx1 hv1 => ?_
  refine K2 ws1 tys1 H1 locs1 ls (w1 :: rest) h0 hS1 (hL.ext hx1) (by rw [hcat hv1]; omega) hm fun ws2 tys2 H2 locs2 vals hS2 hx2 hv2 => ?_
  have := kk ws2 tys2 H2 locs2 (w1 :: vals) hS2 (hx1.tr hx2) (gArgs_cons (gVr_ext hx2 hv1) hv2)
  simpa using this
theorem gAgX_I {cnt : Nat} {e : gIE} {r : gAE} (he : gEvX vI k C sb xs len n pc p1 e) (hr : gAgX k C sb xs len (n + 1) p1 p2 cnt r) : gAgX k C sb xs len n pc p2 (cnt + 1) (aCI e r) := gAgX_cons gCat_vI he hr
theorem gAgX_R {cnt : Nat} {e : gRE} {r : gAE} (he : gR k C n pc p1 e) (hr : gAgX k C sb xs len (n + 1) p1 p2 cnt r) : gAgX k C sb xs len n pc p2 (cnt + 1) (aCR e r) := gAgX_cons gCat_vR (gX_of he) hr
theorem gAgX_B {cnt : Nat} {e : gCE} {r : gAE} (he : gEvX vB k C sb xs len n pc p1 e) (hr : gAgX k C sb xs len (n + 1) p1 p2 cnt r) : gAgX k C sb xs len n pc p2 (cnt + 1) (aCB e r) := gAgX_cons gCat_vB he hr
theorem gEvX_callV {α : Type} {inj : α → gAV} {ix m cnt : Nat} {as : gAE} {e : gLo → gH → Option (α × gH)} (hcat : ∀ L h a h', e L h = some (a, h') → ∃ vs h1, as L h = some (vs, h1) ∧ C m vs h1 = some (some (inj a), h')) (hv : gVk k.2.1 ix m cnt) (hn : n ≤ 8) (ha : gAgX k C sb xs len n pc p1 (cnt + 1) as) (hd : decode k.1 p1 = .ok (.invokevirtual ix, 3)) : gEvX inj k C sb xs len n pc (p1 + 3) e := by
  intro Γ ok hsc L h a h' he
  obtain ⟨vs, h1, e1, e2⟩ := hcat L h a h' he
  obtain ⟨g1, hl, K1⟩ := ha Γ ok hsc L h vs h1 e1
  have g2 : gLe h1 h' := by
    obtain ⟨D, adK, adV, A, ⟨p, l, e, R, s, m0, args, below, meth, c, Q⟩, b, d⟩ := Γ
    obtain ⟨-, -, -, -, -, hC, -⟩ := id ok
    obtain ⟨mi, -, -, g2, -⟩ := hC m vs h1 _ h' e2
    exact g2
  refine ⟨g1.tr g2, fun ws tys H locs ls rest h0 hS hL hc hm kk => ?_⟩
  refine K1 ws tys H locs ls rest h0 hS hL hc (gRm.le g2 hm) fun ws1 tys1 H1 locs1 vals hS1 hx1 hv1 => ?_
  refine g_callV hv ok hS1 (hL.ext hx1) e2 hv1 hl (by omega) hm hd fun ws2 tys2 H2 locs2 w hS2 hx2 hr2 => ?_
  obtain ⟨x, rfl, hx⟩ := hr2
  exact kk ws2 tys2 H2 locs2 x hS2 (hx1.tr hx2) hx
theorem gX_call {ix m cnt : Nat} {as : gAE} (hv : gVk k.2.1 ix m cnt) (hn : n ≤ 8) (ha : gAgX k C sb xs len n pc p1 (cnt + 1) as) (hd : decode k.1 p1 = .ok (.invokevirtual ix, 3)) : gEvX vI k C sb xs len n pc (p1 + 3) (cI C m as) := gEvX_callV cI_spec hv hn ha hd
theorem gX_callL {ix m cnt : Nat} {as : gAE} (hv : gVk k.2.1 ix m cnt) (hn : n ≤ 8) (ha : gAgX k C sb xs len n pc p1 (cnt + 1) as) (hd : decode k.1 p1 = .ok (.invokevirtual ix, 3)) : gEvX vL k C sb xs len n pc (p1 + 3) (cL C m as) := gEvX_callV cL_spec hv hn ha hd
/-- whether a number of the script isn't 0, as a value -/
theorem gX_nz {e : gIE} {off1 off2 : Int} (he : gEvX vI k C sb xs len n pc p1 e) (hd0 : decode k.1 p1 = .ok (.ifCond .eq off1, 3)) (ht1 : (p1 : Int) + off1 = ((p1 + 7 : Nat) : Int)) (hd1 : decode k.1 (p1 + 3) = .ok (.iconst 1, 1)) (hd2 : decode k.1 (p1 + 4) = .ok (.goto off2, 3)) (ht2 : ((p1 + 4 : Nat) : Int) + off2 = ((p1 + 8 : Nat) : Int)) (hd3 : decode k.1 (p1 + 7) = .ok (.iconst 0, 1)) : gEvX vB k C sb xs len n pc (p1 + 8) (czC .ne e) := by
  intro Γ ok hsc L h a h' hh
  simp only [czC, Option.bind_eq_some_iff, Option.some.injEq, Prod.mk.injEq] at hh
  obtain ⟨⟨y, h1⟩, e1, rfl, rfl⟩ := hh
  obtain ⟨g1, K1⟩ := he Γ ok hsc L h y h1 e1
  refine ⟨g1, fun ws tys H locs ls rest hl0 hS hL hc hm kk => ?_⟩
  refine K1 ws tys H locs ls rest hl0 hS hL hc hm fun ws1 tys1 H1 locs1 w1 hS1 hx1 hv1 => ?_
  obtain ⟨j, rfl, hj⟩ := hv1
  have kk2 := kk ws1 tys1 H1 locs1
  obtain ⟨D, adK, adV, A, ⟨p, l, e, R, s, m, args, below, meth, c, Q⟩, b, d⟩ := Γ
  obtain ⟨⟨hx, hb, hml, hown, hts⟩, -⟩ := ok
  refine lv_if_eq hx hb hd0 ht1 (fun h0 => ?_) (fun h0 => ?_)
  · refine lv_iconst (v := 0) hx hb hd3 (by decide) (kk2 _ hS1 hx1 ⟨0, rfl, ?_⟩)
    have : y = 0 := by rw [← hj, h0]; rfl
    subst this
    rfl
  · refine lv_iconst (v := 1) hx hb hd1 (by decide) (lv_goto hx hb hd2 ht2 (kk2 _ hS1 hx1 ⟨1, rfl, ?_⟩))
    have : ¬ y = 0 := fun z => h0 (Int32.toInt_inj.mp (by rw [hj, z]; rfl))
    simp [cmB, this]
/-- two calls that answer alike -/
theorem lc_two {e1 e2 : gIE} {off : Int} {tgt : Nat} (h1 : gEvX vI k C sb xs len 0 pc p1 e1) (h2 : gEvX vI k C sb xs len 1 p1 p2 e2) (hd : decode k.1 p2 = .ok (.if_icmp .eq off, 3)) (ht : (p2 : Int) + off = (tgt : Int)) (Γ : gG) (ok : gOK k C Γ) (hsc : gScr Γ sb xs len) (L : gLo) (h ha hb : gH) (v : Int) (ea : e1 L h = some (v, ha)) (eb : e2 L ha = some (v, hb)) (ws : va_W) (tys : gTs) (H : Heap) (locs : List Loc) (ls : Array Slot) (h0 : ls[0]? = some (.val (.ref sb))) (hS : gS Γ ws tys h H locs) (hL : gLR Γ k.2.2.1 ws ls L) (hm : gRm Γ hb)
    (kk : ∀ (ws' : va_W) (tys' : gTs) (H' : Heap) (locs' : List Loc), gS Γ ws' tys' hb H' locs' → gExt ws ws' → gW Γ H' locs' hb (fun m => F0 m tgt ls [])) : gW Γ H locs h (fun m => F0 m pc ls []) := by
  obtain ⟨g1, K1⟩ := h1 Γ ok hsc L h v ha ea
  obtain ⟨g2, K2⟩ := h2 Γ ok hsc L ha v hb eb
  refine K1 ws tys H locs ls [] h0 hS hL gCat0 (gRm.le g2 hm) fun ws1 tys1 H1 locs1 w1 hS1 hx1 hv1 => ?_
  refine K2 ws1 tys1 H1 locs1 ls [w1] h0 hS1 (hL.ext hx1) (by rw [gCat_vI hv1]; exact Nat.le_refl 1) hm fun ws2 tys2 H2 locs2 w2 hS2 hx2 hv2 => ?_
  obtain ⟨i1, rfl, q1⟩ := hv1
  obtain ⟨i2, rfl, q2⟩ := hv2
  have kk2 := kk ws2 tys2 H2 locs2 hS2 (hx1.tr hx2)
  obtain ⟨D, adK, adV, A, ⟨p, l, e, R, s, m, args, below, meth, c, Q⟩, b, d⟩ := Γ
  obtain ⟨⟨hx, hb, hml, hown, hts⟩, -⟩ := ok
  exact lv_icmp_eq hx hb hd ht (fun _ => kk2) (fun hne => absurd (Int32.toInt_inj.mp (q1.trans q2.symm)) hne)
theorem lc_twoL {e1 e2 : gIE} {off : Int} {tgt : Nat} (h1 : gEvX vL k C sb xs len 0 pc p1 e1) (h2 : gEvX vL k C sb xs len 2 p1 p2 e2) (hd0 : decode k.1 p2 = .ok (.lcmp, 1)) (hd : decode k.1 (p2 + 1) = .ok (.ifCond .eq off, 3)) (ht : ((p2 + 1 : Nat) : Int) + off = (tgt : Int)) (Γ : gG) (ok : gOK k C Γ) (hsc : gScr Γ sb xs len) (L : gLo) (h ha hb : gH) (v : Int) (ea : e1 L h = some (v, ha)) (eb : e2 L ha = some (v, hb)) (ws : va_W) (tys : gTs) (H : Heap) (locs : List Loc) (ls : Array Slot) (h0 : ls[0]? = some (.val (.ref sb))) (hS : gS Γ ws tys h H locs) (hL : gLR Γ k.2.2.1 ws ls L) (hm : gRm Γ hb)
    (kk : ∀ (ws' : va_W) (tys' : gTs) (H' : Heap) (locs' : List Loc), gS Γ ws' tys' hb H' locs' → gExt ws ws' → gW Γ H' locs' hb (fun m => F0 m tgt ls [])) : gW Γ H locs h (fun m => F0 m pc ls []) := by
  obtain ⟨g1, K1⟩ := h1 Γ ok hsc L h v ha ea
  obtain ⟨g2, K2⟩ := h2 Γ ok hsc L ha v hb eb
  refine K1 ws tys H locs ls [] h0 hS hL gCat0 (gRm.le g2 hm) fun ws1 tys1 H1 locs1 w1 hS1 hx1 hv1 => ?_
  refine K2 ws1 tys1 H1 locs1 ls [w1] h0 hS1 (hL.ext hx1) (by rw [gCat_vL hv1]; exact Nat.le_refl 2) hm fun ws2 tys2 H2 locs2 w2 hS2 hx2 hv2 => ?_
  obtain ⟨i1, rfl, q1⟩ := hv1
  obtain ⟨i2, rfl, q2⟩ := hv2
  have kk2 := kk ws2 tys2 H2 locs2 hS2 (hx1.tr hx2)
  obtain ⟨D, adK, adV, A, ⟨p, l, e, R, s, m, args, below, meth, c, Q⟩, b, d⟩ := Γ
  obtain ⟨⟨hx, hb, hml, hown, hts⟩, -⟩ := ok
  have e12 : i1 = i2 := Int64.toInt_inj.mp (q1.trans q2.symm)
  subst e12
  refine W.lcmp hx hb hd0 (lv_if_eq hx hb hd ht (fun _ => kk2) (fun hne => absurd ?_ hne))
  simp [lg_cmp]
end X1
