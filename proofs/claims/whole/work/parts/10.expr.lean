/-! EXPRESSIONS that call, that make, that choose; CONDITIONS -/
section E6
variable {k : gK} {C : gOrc} {n pc p1 : Nat}
theorem gEv_callV {α : Type} {inj : α → gAV} {ix m cnt : Nat} {as : gAE} {e : gLo → gH → Option (α × gH)} (hcat : ∀ L h a h', e L h = some (a, h') → ∃ vs h1, as L h = some (vs, h1) ∧ C m vs h1 = some (some (inj a), h')) (hv : gVk k.2.1 ix m cnt) (hn : n ≤ 8) (ha : gAg k C n pc p1 (cnt + 1) as) (hd : decode k.1 p1 = .ok (.invokevirtual ix, 3)) : gEvl inj k C n pc (p1 + 3) e := by
  intro Γ ok L h a h' he
  obtain ⟨vs, h1, e1, e2⟩ := hcat L h a h' he
  obtain ⟨g1, hl, K1⟩ := ha Γ ok L h vs h1 e1
  have g2 : gLe h1 h' := by
    obtain ⟨D, adK, adV, A, ⟨p, l, e, R, s, m0, args, below, meth, c, Q⟩, b, d⟩ := Γ
    obtain ⟨-, -, -, -, -, hC, -⟩ := id ok
    obtain ⟨mi, -, -, g2, -⟩ := hC m vs h1 _ h' e2
    exact g2
  refine ⟨g1.tr g2, fun ws tys H locs ls rest hS hL hc hm kk => ?_⟩
  refine K1 ws tys H locs ls rest hS hL hc (gRm.le g2 hm) fun ws1 tys1 H1 locs1 vals hS1 hx1 hv1 => ?_
  refine g_callV hv ok hS1 (hL.ext hx1) e2 hv1 hl (by omega) hm hd fun ws2 tys2 H2 locs2 w hS2 hx2 hr2 => ?_
  obtain ⟨x, rfl, hx⟩ := hr2
  exact kk ws2 tys2 H2 locs2 x hS2 (hx1.tr hx2) hx
theorem gEv_callS {α : Type} {inj : α → gAV} {ix m cnt : Nat} {as : gAE} {e : gLo → gH → Option (α × gH)} (hcat : ∀ L h a h', e L h = some (a, h') → ∃ vs h1, as L h = some (vs, h1) ∧ C m vs h1 = some (some (inj a), h')) (hv : gSk k.2.1 ix m cnt) (hn : n ≤ 8) (ha : gAg k C n pc p1 cnt as) (hd : decode k.1 p1 = .ok (.invokestatic ix, 3)) : gEvl inj k C n pc (p1 + 3) e := by
  intro Γ ok L h a h' he
  obtain ⟨vs, h1, e1, e2⟩ := hcat L h a h' he
  obtain ⟨g1, hl, K1⟩ := ha Γ ok L h vs h1 e1
  have g2 : gLe h1 h' := by
    obtain ⟨D, adK, adV, A, ⟨p, l, e, R, s, m0, args, below, meth, c, Q⟩, b, d⟩ := Γ
    obtain ⟨-, -, -, -, -, hC, -⟩ := id ok
    obtain ⟨mi, -, -, g2, -⟩ := hC m vs h1 _ h' e2
    exact g2
  refine ⟨g1.tr g2, fun ws tys H locs ls rest hS hL hc hm kk => ?_⟩
  refine K1 ws tys H locs ls rest hS hL hc (gRm.le g2 hm) fun ws1 tys1 H1 locs1 vals hS1 hx1 hv1 => ?_
  refine g_callS hv ok hS1 (hL.ext hx1) e2 hv1 hl (by omega) hm hd fun ws2 tys2 H2 locs2 w hS2 hx2 hr2 => ?_
  obtain ⟨x, rfl, hx⟩ := hr2
  exact kk ws2 tys2 H2 locs2 x hS2 (hx1.tr hx2) hx
theorem cI_spec {m : Nat} {as : gAE} (L : gLo) (h : gH) (a : Int) (h' : gH) (he : cI C m as L h = some (a, h')) : ∃ vs h1, as L h = some (vs, h1) ∧ C m vs h1 = some (some (vI a), h') := by
  simp only [cI, Option.bind_eq_some_iff] at he
  obtain ⟨⟨vs, h1⟩, e1, he⟩ := he
  split at he
  · rename_i z h2 hz
    cases he
    exact ⟨vs, h1, e1, hz⟩
  · cases he
theorem cL_spec {m : Nat} {as : gAE} (L : gLo) (h : gH) (a : Int) (h' : gH) (he : cL C m as L h = some (a, h')) : ∃ vs h1, as L h = some (vs, h1) ∧ C m vs h1 = some (some (vL a), h') := by
  simp only [cL, Option.bind_eq_some_iff] at he
  obtain ⟨⟨vs, h1⟩, e1, he⟩ := he
  split at he
  · rename_i z h2 hz
    cases he
    exact ⟨vs, h1, e1, hz⟩
  · cases he
theorem cR_spec {m : Nat} {as : gAE} (L : gLo) (h : gH) (a : Option Nat) (h' : gH) (he : cR C m as L h = some (a, h')) : ∃ vs h1, as L h = some (vs, h1) ∧ C m vs h1 = some (some (vR a), h') := by
  simp only [cR, Option.bind_eq_some_iff] at he
  obtain ⟨⟨vs, h1⟩, e1, he⟩ := he
  split at he
  · rename_i z h2 hz
    cases he
    exact ⟨vs, h1, e1, hz⟩
  · cases he
theorem gI_callV {ix m cnt : Nat} {as : gAE} (hv : gVk k.2.1 ix m cnt) (hn : n ≤ 8) (ha : gAg k C n pc p1 (cnt + 1) as) (hd : decode k.1 p1 = .ok (.invokevirtual ix, 3)) : gI k C n pc (p1 + 3) (cI C m as) := gEv_callV cI_spec hv hn ha hd
theorem gJ_callV {ix m cnt : Nat} {as : gAE} (hv : gVk k.2.1 ix m cnt) (hn : n ≤ 8) (ha : gAg k C n pc p1 (cnt + 1) as) (hd : decode k.1 p1 = .ok (.invokevirtual ix, 3)) : gJ k C n pc (p1 + 3) (cL C m as) := gEv_callV cL_spec hv hn ha hd
theorem gR_callV {ix m cnt : Nat} {as : gAE} (hv : gVk k.2.1 ix m cnt) (hn : n ≤ 8) (ha : gAg k C n pc p1 (cnt + 1) as) (hd : decode k.1 p1 = .ok (.invokevirtual ix, 3)) : gR k C n pc (p1 + 3) (cR C m as) := gEv_callV cR_spec hv hn ha hd
theorem gB_callV {ix m cnt : Nat} {as : gAE} (hv : gVk k.2.1 ix m cnt) (hn : n ≤ 8) (ha : gAg k C n pc p1 (cnt + 1) as) (hd : decode k.1 p1 = .ok (.invokevirtual ix, 3)) : gB k C n pc (p1 + 3) (cB C m as) := gB_of (gI_callV hv hn ha hd)
theorem gI_callS {ix m cnt : Nat} {as : gAE} (hv : gSk k.2.1 ix m cnt) (hn : n ≤ 8) (ha : gAg k C n pc p1 cnt as) (hd : decode k.1 p1 = .ok (.invokestatic ix, 3)) : gI k C n pc (p1 + 3) (cI C m as) := gEv_callS cI_spec hv hn ha hd
theorem gJ_callS {ix m cnt : Nat} {as : gAE} (hv : gSk k.2.1 ix m cnt) (hn : n ≤ 8) (ha : gAg k C n pc p1 cnt as) (hd : decode k.1 p1 = .ok (.invokestatic ix, 3)) : gJ k C n pc (p1 + 3) (cL C m as) := gEv_callS cL_spec hv hn ha hd
theorem gR_callS {ix m cnt : Nat} {as : gAE} (hv : gSk k.2.1 ix m cnt) (hn : n ≤ 8) (ha : gAg k C n pc p1 cnt as) (hd : decode k.1 p1 = .ok (.invokestatic ix, 3)) : gR k C n pc (p1 + 3) (cR C m as) := gEv_callS cR_spec hv hn ha hd
theorem gB_callS {ix m cnt : Nat} {as : gAE} (hv : gSk k.2.1 ix m cnt) (hn : n ≤ 8) (ha : gAg k C n pc p1 cnt as) (hd : decode k.1 p1 = .ok (.invokestatic ix, 3)) : gB k C n pc (p1 + 3) (cB C m as) := gB_of (gI_callS hv hn ha hd)
theorem gB_load_n {i : Nat} {q : Fin 4} (hq : (q : Nat) = i) (hd : decode k.1 pc = .ok (.iload_n q, 1)) : gB k C n pc (pc + 1) (lB i) := gB_of (gI_load_n hq hd)
theorem gB_load {i : Nat} (hd : decode k.1 pc = .ok (.iload i, 2)) : gB k C n pc (pc + 2) (lB i) := gB_of (gI_load hd)
theorem gB_fld {o : gRE} {ix ci kf : Nat} (ho : gR k C n pc p1 o) (hf : gFk k.2.1 ix ci kf) (hd : decode k.1 p1 = .ok (.getfield ix, 3)) : gB k C n pc (p1 + 3) (fB ci kf o) := gB_of (gI_fld ho hf hd)
theorem gB_ald {a : gRE} {i : gIE} {p2 : Nat} (ha : gR k C n pc p1 a) (hi : gI k C (n + 1) p1 p2 i) (hd : decode k.1 p2 = .ok (.baload, 1)) : gB k C n pc (p2 + 1) (aB 3 a i) := gB_of (gI_ald (by decide) ha hi hd)
end E6
/-- the fields of a class's new object -/
def gNf (ci : Nat) (fs : List gAV) : Prop := ∃ (Cn : String) (T : u_T) (N : Nat) (ty : Nat → FieldType) (gs : List Value), vwCl[ci]? = some (Cn, T, N) ∧ (∀ j, j < N → parseFieldDescriptor (T j).2.2.1 = some (ty j)) ∧ (∀ j, j < N → defaultValue (ty j) = vp_V gs j) ∧ fs.length = N ∧ gs.length = N ∧ ∀ (j : Nat) (v : gAV), fs[j]? = some v → ∃ w : Value, gs[j]? = some w ∧ ∀ (adK : Nat → Nat) (ws : va_W), gVr adK ws w v
section E7
variable {k : gK} {C : gOrc} {n pc p1 : Nat}
theorem gLe_push {h : gH} {j : Nat} {o : gOb} : gLe h (gPush h j o) := ⟨Nat.le_succ _, Nat.le_succ _, Nat.le_add_right _ _⟩
theorem gR_newP {ix ix2 ci m cnt : Nat} {fs : List gAV} {as : gAE} {Cn : String} (hf : gNf ci fs) (hcn : ∃ (T : u_T) (N : Nat), vwCl[ci]? = some (Cn, T, N)) (hcl : Cond.classLink k.2.1 ix Cn ∈ gTw) (hd0 : decode k.1 pc = .ok (.new ix, 3)) (hd1 : decode k.1 (pc + 3) = .ok (.dup, 1)) (hv : gNk1 k.2.1 ix2 m cnt) (hn : n + 1 ≤ 8) (ha : gAg k C (n + 2) (pc + 4) p1 cnt as) (hd : decode k.1 p1 = .ok (.invokespecial ix2, 3)) : ∀ Γ : gG, gOK k C Γ → ∀ (L : gLo) (h : gH) (a : Option Nat) (h' : gH), nwR C ci fs m as L h = some (a, h') → gLe h h' ∧ ∀ (ws : va_W) (tys : gTs) (H : Heap) (locs : List Loc) (ls : Array Slot) (rest : List Value), gS Γ ws tys h H locs → gLR Γ k.2.2.1 ws ls L → gCat rest ≤ n → gRm Γ h' →
  (∀ (ws' : va_W) (tys' : gTs) (H' : Heap) (locs' : List Loc) (w : Value), gS Γ ws' tys' h' H' locs' → gExt ws ws' → gVr Γ.2.1 ws' w (vR a) → (∃ (o y1 : Nat) (gs : List Value), a = some o ∧ w = .ref y1 ∧ ws'[o]? = some (y1, .inr (ci, gs))) → gW Γ H' locs' h' (fun m => F0 m (p1 + 3) ls (w :: rest))) → gW Γ H locs h (fun m => F0 m pc ls rest) := by
  intro Γ ok L h r h' he
  simp only [nwR, Option.bind_eq_some_iff] at he
  obtain ⟨⟨vs, h1⟩, e1, he⟩ := he
  split at he
  rotate_left
  · cases he
  rename_i h2 e2
  simp only [Option.some.injEq, Prod.mk.injEq] at he
  obtain ⟨rfl, rfl⟩ := he
  obtain ⟨g1, hl, K1⟩ := ha Γ ok L _ vs h1 e1
  have g2 : gLe h1 h2 := by
    obtain ⟨D, adK, adV, A, ⟨p, l, e, R, s, m0, args, below, meth, c, Q⟩, b, d⟩ := Γ
    obtain ⟨-, -, -, -, -, hC, -⟩ := id ok
    obtain ⟨mi, -, -, g2, -⟩ := hC m _ h1 _ h2 e2
    exact g2
  refine ⟨gLe_push.tr (g1.tr g2), fun ws tys H locs ls rest hS hL hc hm kk => ?_⟩
  obtain ⟨D, adK, adV, A, ⟨p, l, e, R, s, m0, args, below, meth, c, Q⟩, b, d⟩ := Γ
  obtain ⟨⟨hx, hb, hml, hown, hts⟩, hA, hfr, hlo, hE, hC, hIn⟩ := id ok
  obtain ⟨hK, hP, hD, hSS, hR, hb1, hb2⟩ := id hS
  obtain ⟨C0, T, N, ty, gs, f0, f1, f2, f3, f4, f5⟩ := hf
  obtain ⟨T', N', f0'⟩ := hcn
  rw [f0] at f0'
  cases f0'
  obtain ⟨cl1, -, cl3, cl4, cl5⟩ := gCl_ok f0
  have hm1 := gRm.le (g1.tr g2) hm
  have hle : h.1.2.1 + 1 - b.1 ≤ R.cells ∧ h.1.2.2 + fs.length - b.2 ≤ R.slots := hm1
  refine va_new (ci := ci) (fs := gs) (C := Cn) (T := T) (N := N) (ls := ls) (rest := rest) hx hb hts cl1 ty f1 hown (hts _ hcl) (hts _ cl4) (hts _ cl5) hK hP hD hSS hA f0 f2 (by omega) (by omega) hd0 (fun q H1 hP1 hD1 hS1 => ?_)
  have hHR : gHR adK tys (ws ++ [(q, .inr (ci, gs))]) (gPush h fs.length (oO ci fs)) := gHR_push hR gTx.rf ⟨gs, rfl, f4.trans f3.symm, fun j v hj => by
    obtain ⟨w, w1, w2⟩ := f5 j v hj
    exact ⟨w, w1, w2 _ _⟩⟩
  have hSn : gS (D, adK, adV, A, (p, l, e, R, s, m0, args, below, meth, c, Q), b, d) (ws ++ [(q, .inr (ci, gs))]) tys (gPush h fs.length (oO ci fs)) H1 locs := ⟨hK, hP1, hD1, hS1, hHR, by simp only [gPush]; omega, by simp only [gPush]; omega⟩
  have ho : (ws ++ [(q, (.inr (ci, gs) : va_E))])[h.1.1]? = some (q, .inr (ci, gs)) := by rw [← hR.1]; simp
  refine lv_dup hx hb hd1 rfl ?_
  have ec : h.1.2.1 - b.1 + 1 = h.1.2.1 + 1 - b.1 := by omega
  have es : h.1.2.2 - b.2 + N = h.1.2.2 + fs.length - b.2 := by omega
  rw [ec, es]
  refine K1 (ws ++ [(q, .inr (ci, gs))]) tys H1 locs ls (.ref q :: .ref q :: rest) hSn (hL.ext gExt.app) (by rw [gCat_r, gCat_r]; omega) (gRm.le g2 hm) fun ws2 tys2 H2 locs2 vals hS2 hx2 hv2 => ?_
  obtain ⟨e', ho2, ho4⟩ := hx2 _ _ _ ho
  have hst : vals.reverse ++ Value.ref q :: Value.ref q :: rest = (Value.ref q :: vals).reverse ++ (Value.ref q :: rest) := by simp
  rw [hst]
  refine g_callI (Γ := (D, adK, adV, A, (p, l, e, R, s, m0, args, below, meth, c, Q), b, d)) hv ok hS2 ((hL.ext gExt.app).ext hx2) e2 (gArgs_cons ⟨q, e', rfl, ho2⟩ hv2) hl (by rw [gCat_r]; omega) hm hd fun ws3 tys3 H3 locs3 w hS3 hx3 hr3 => ?_
  have hw : w = none := hr3
  subst hw
  obtain ⟨e3, ho3, ho5⟩ := hx3 _ _ _ ho2
  refine kk ws3 tys3 H3 locs3 (.ref q) hS3 (gExt.app.tr (hx2.tr hx3)) ⟨q, e3, rfl, ho3⟩ ⟨h.1.1, q, ?_⟩
  have ho6 : gKd e3 = some ci := ho5.trans ho4
  match e3, ho3, ho6 with
  | .inr (c9, g9), ho3, ho6 =>
    have : c9 = ci := Option.some.inj ho6
    subst this
    exact ⟨g9, rfl, rfl, ho3⟩
theorem gR_new {ix ix2 ci m cnt : Nat} {fs : List gAV} {as : gAE} {Cn : String} (hf : gNf ci fs) (hcn : ∃ (T : u_T) (N : Nat), vwCl[ci]? = some (Cn, T, N)) (hcl : Cond.classLink k.2.1 ix Cn ∈ gTw) (hd0 : decode k.1 pc = .ok (.new ix, 3)) (hd1 : decode k.1 (pc + 3) = .ok (.dup, 1)) (hv : gNk1 k.2.1 ix2 m cnt) (hn : n + 1 ≤ 8) (ha : gAg k C (n + 2) (pc + 4) p1 cnt as) (hd : decode k.1 p1 = .ok (.invokespecial ix2, 3)) : gR k C n pc (p1 + 3) (nwR C ci fs m as) := by
  intro Γ ok L h a h' he
  obtain ⟨g1, K1⟩ := gR_newP hf hcn hcl hd0 hd1 hv hn ha hd Γ ok L h a h' he
  exact ⟨g1, fun ws tys H locs ls rest hS hL hc hm kk => K1 ws tys H locs ls rest hS hL hc hm fun ws' tys' H' locs' w hS' hx' hv' _ => kk ws' tys' H' locs' w hS' hx' hv'⟩
def gAtI : Nat → ArrayType
  | 0 => .int
  | 1 => .byte
  | 2 => .long
  | _ => .boolean
theorem gAt_ty (ty : Nat) : newarray.typeOf (gAtI ty) = gTy ty := by
  match ty with
  | 0 => rfl
  | 1 => rfl
  | 2 => rfl
  | k + 3 => rfl
theorem g_nat {j : Int32} {i : Int} (hj : j.toInt = i) (h0 : 0 ≤ i) : ¬ j < 0 ∧ j.toNatClampNeg = i.toNat := by
  subst hj
  refine ⟨fun h => ?_, rfl⟩
  have := Int32.lt_iff_toInt_lt.mp h
  have e : (0 : Int32).toInt = 0 := rfl
  omega
theorem gR_newa {ty : Nat} {e0 : gIE} (hw : Cond.arrayClass (gTy ty) ∈ gTw) (he0 : gI k C n pc p1 e0) (hd : decode k.1 p1 = .ok (.newarray (gAtI ty), 2)) : gR k C n pc (p1 + 2) (naR ty e0) := by
  intro Γ ok L h r h' he
  simp only [naR, Option.bind_eq_some_iff] at he
  obtain ⟨⟨z, h1⟩, e1, he⟩ := he
  split at he
  rotate_left
  · cases he
  rename_i hz
  simp only [Option.some.injEq, Prod.mk.injEq] at he
  obtain ⟨rfl, rfl⟩ := he
  obtain ⟨g1, K1⟩ := he0 Γ ok L h z h1 e1
  refine ⟨g1.tr gLe_push, fun ws tys H locs ls rest hS hL hc hm kk => ?_⟩
  refine K1 ws tys H locs ls rest hS hL hc (gRm.le gLe_push hm) fun ws1 tys1 H1 locs1 w1 hS1 hx1 hv1 => ?_
  obtain ⟨D, adK, adV, A, ⟨p, l, e, R, s, m0, args, below, meth, c, Q⟩, b, d⟩ := Γ
  obtain ⟨⟨hx, hb, hml, hown, hts⟩, hA, hfr, hlo, hE, hC, hIn⟩ := id ok
  obtain ⟨hK, hP, hD, hSS, hR, hb1, hb2⟩ := id hS1
  obtain ⟨j, rfl, hj⟩ := hv1
  obtain ⟨hz0, hz1⟩ := hz
  obtain ⟨j1, j2⟩ := g_nat hj hz0
  have hle : h1.1.2.1 + 1 - b.1 ≤ R.cells ∧ h1.1.2.2 + z.toNat - b.2 ≤ R.slots := hm
  have ec : h1.1.2.1 - b.1 + 1 = h1.1.2.1 + 1 - b.1 := by omega
  have es : h1.1.2.2 - b.2 + z.toNat = h1.1.2.2 + z.toNat - b.2 := by omega
  have hzn : z.toNat ≤ 10000 := by omega
  have fin : ∀ (q : Nat) (cA : ClassId) (H2 : Heap) (a0 : vp_A), (gEo adK (tys1 ++ [(cA, gTy ty)]) (ws1 ++ [(q, .inl (cA, a0))]) (.inl (cA, a0)) (oA ty z.toNat (fun _ => 0))) → va_K D vwCl (tys1 ++ [(cA, gTy ty)]) s → va_P D vwCl (ws1 ++ [(q, .inl (cA, a0))]) H2 → va_D A (ws1 ++ [(q, .inl (cA, a0))]) → va_S A s.heap H2 locs1 →
      W p l e R s m0 args below meth c H2 locs1 (h1.1.2.1 - b.1 + 1) (h1.1.2.2 - b.2 + z.toNat) Q (F0 m0 (p1 + 2) ls (.ref q :: rest)) := by
    intro q cA H2 a0 hEo hK2 hP2 hD2 hS2
    rw [ec, es]
    exact kk _ _ H2 locs1 (.ref q) ⟨hK2, hP2, hD2, hS2, gHR_push hR gTx.app hEo, by simp only [gPush]; omega, by simp only [gPush]; omega⟩ (hx1.tr gExt.app) ⟨q, .inl (cA, a0), rfl, by simp only [← hR.1]; simp⟩
  have hbts : z.toNat * componentBytes (gTy ty) ≤ 536870912 := by
    have : componentBytes (gTy ty) ≤ 8 := by
      match ty with
      | 0 => decide
      | 1 => decide
      | 2 => decide
      | k + 3 => exact (by decide : componentBytes .boolean ≤ 8)
    exact Nat.le_trans (Nat.mul_le_mul hzn this) (by decide)
  have hEt : ∀ cA : ClassId, ∃ t0 : Nat, (tys1 ++ [(cA, gTy ty)])[t0]? = some (cA, gTy ty) := fun cA => ⟨tys1.length, by simp⟩
  by_cases ht : ty = 2
  · subst ht
    exact va_newa (atype := .long) (ty := .long) (a0 := (z.toNat, .inr (.inl (fun _ => 0)))) hx hb (hts _ hw) rfl hK hP hD hSS hA (fun cA => rfl) j1 j2 hbts (by omega) (by omega) hd (fun q cA H2 hK2 hP2 hD2 hS2 => fin q cA H2 _ ⟨by omega, cA, hEt cA, Or.inl ⟨rfl, _, rfl, fun _ _ => rfl⟩⟩ hK2 hP2 hD2 hS2)
  · have hdef : ∀ cA : ClassId, vp_cell cA (z.toNat, .inl (fun _ => 0)) = arrV cA z.toNat (fun _ => defaultValue (gTy ty)) := by
      intro cA
      match ty, ht with
      | 0, _ => rfl
      | 1, _ => rfl
      | k + 3, _ => rfl
    exact va_newa (atype := gAtI ty) (ty := gTy ty) (a0 := (z.toNat, .inl (fun _ => 0))) hx hb (by rw [gAt_ty]; exact hts _ hw) (gAt_ty ty) hK hP hD hSS hA hdef j1 j2 hbts (by omega) (by omega) hd (fun q cA H2 hK2 hP2 hD2 hS2 => fin q cA H2 _ ⟨by omega, cA, hEt cA, Or.inr ⟨ht, _, rfl, fun _ _ => rfl⟩⟩ hK2 hP2 hD2 hS2)
theorem gR_newq {ty ix : Nat} {e0 : gIE} (hcl : Cond.classLink k.2.1 ix (gTq ty) ∈ gTw) (he0 : gI k C n pc p1 e0) (hd : decode k.1 p1 = .ok (.anewarray ix, 3)) : gR k C n pc (p1 + 3) (nqR ty e0) := by
  intro Γ ok L h r h' he
  simp only [nqR, Option.bind_eq_some_iff] at he
  obtain ⟨⟨z, h1⟩, e1, he⟩ := he
  split at he
  rotate_left
  · cases he
  rename_i hz
  simp only [Option.some.injEq, Prod.mk.injEq] at he
  obtain ⟨rfl, rfl⟩ := he
  obtain ⟨g1, K1⟩ := he0 Γ ok L h z h1 e1
  refine ⟨g1.tr gLe_push, fun ws tys H locs ls rest hS hL hc hm kk => ?_⟩
  refine K1 ws tys H locs ls rest hS hL hc (gRm.le gLe_push hm) fun ws1 tys1 H1 locs1 w1 hS1 hx1 hv1 => ?_
  obtain ⟨D, adK, adV, A, ⟨p, l, e, R, s, m0, args, below, meth, c, Q⟩, b, d⟩ := Γ
  obtain ⟨⟨hx, hb, hml, hown, hts⟩, hA, hfr, hlo, hE, hC, hIn⟩ := id ok
  obtain ⟨hK, hP, hD, hSS, hR, hb1, hb2⟩ := id hS1
  obtain ⟨j, rfl, hj⟩ := hv1
  obtain ⟨hz0, hz1⟩ := hz
  obtain ⟨j1, j2⟩ := g_nat hj hz0
  have hle : h1.1.2.1 + 1 - b.1 ≤ R.cells ∧ h1.1.2.2 + z.toNat - b.2 ≤ R.slots := hm
  have ec : h1.1.2.1 - b.1 + 1 = h1.1.2.1 + 1 - b.1 := by omega
  have es : h1.1.2.2 - b.2 + z.toNat = h1.1.2.2 + z.toNat - b.2 := by omega
  refine va_newq hx hb hown (hts _ hcl) (hE.2.2.2.1 ty) hK hP hD hSS hA j1 j2 (by omega) (by omega) (by omega) hd (fun q cA H2 hK2 hP2 hD2 hS2 => ?_)
  rw [ec, es]
  exact kk _ _ H2 locs1 (.ref q) ⟨hK2, hP2, hD2, hS2, gHR_push hR gTx.app ⟨by omega, cA, ⟨tys1.length, by simp⟩, _, rfl, fun _ _ => rfl⟩, by simp only [gPush]; omega, by simp only [gPush]; omega⟩ (hx1.tr gExt.app) ⟨q, .inl (cA, z.toNat, .inr (.inr (.inr (.inr (fun _ => none))))), rfl, by simp only [← hR.1]; simp⟩
end E7
