/-! BOOLEANS and ARRAYS: more of the semantics, and their rules -/
abbrev vB (b : Bool) : gAV := vI (if b = true then 1 else 0)
def zB (z : Int) : Option Bool := if z = 0 then some false else if z = 1 then some true else none
def lB (i : Nat) : gCE := fun L h => (lI i L h).bind fun x => (zB x.1).bind fun b => some (b, x.2)
def fB (ci k : Nat) (o : gRE) : gCE := fun L h => (fI ci k o L h).bind fun x => (zB x.1).bind fun b => some (b, x.2)
def aB (ty : Nat) (a : gRE) (i : gIE) : gCE := fun L h => (aI ty a i L h).bind fun x => (zB x.1).bind fun b => some (b, x.2)
def kB (b : Bool) : gCE := fun _ h => some (b, h)
def bI (c : gCE) : gIE := fun L h => (c L h).bind fun x => some (if x.1 = true then 1 else 0, x.2)
def aCB (e : gCE) (r : gAE) : gAE := fun L h => (e L h).bind fun x => (r L x.2).bind fun y => some (vB x.1 :: y.1, y.2)
def cB (C : gOrc) (m : Nat) (as : gAE) : gCE := fun L h => (cI C m as L h).bind fun x => (zB x.1).bind fun b => some (b, x.2)
def stB (i : Nat) (c : gCE) : gSt := stI i (bI c)
def rtB (c : gCE) : gSt := fun _ L h => (c L h).bind fun x => some (some (3, some (vB x.1)), L, x.2)
def pfB (ci k : Nat) (o : gRE) (c : gCE) : gSt := fun _ L h => (o L h).bind fun x => (c L x.2).bind fun y => (gPut ci k (vB y.1) y.2 x.1).bind fun h' => some (none, L, h')
def asB (a : gRE) (i : gIE) (c : gCE) : gSt := asI 3 a i (bI c)
theorem zB_spec {z : Int} {b : Bool} (h : zB z = some b) : z = if b = true then 1 else 0 := by
  unfold zB at h
  split at h
  · cases h; assumption
  · split at h
    · cases h; assumption
    · cases h
abbrev gB (k : gK) (C : gOrc) (n pc pc' : Nat) (e : gCE) : Prop := gEvl vB k C n pc pc' e
/-- code that leaves an int leaves a boolean, where it is 0 or 1 -/
theorem gB_of {k : gK} {C : gOrc} {n pc pc' : Nat} {e : gIE} (he : gI k C n pc pc' e) : gB k C n pc pc' (fun L h => (e L h).bind fun x => (zB x.1).bind fun b => some (b, x.2)) := by
  intro Γ ok L h b h' hh
  simp only [Option.bind_eq_some_iff, Option.some.injEq, Prod.mk.injEq] at hh
  obtain ⟨⟨z, h1⟩, e1, b', e2, rfl, rfl⟩ := hh
  obtain ⟨g1, K1⟩ := he Γ ok L h z h1 e1
  refine ⟨g1, fun ws tys H locs ls rest hS hL hc hm kk => ?_⟩
  refine K1 ws tys H locs ls rest hS hL hc hm fun ws1 tys1 H1 locs1 w1 hS1 hx1 hv1 => ?_
  refine kk ws1 tys1 H1 locs1 w1 hS1 hx1 ?_
  have e3 : z = if b' = true then 1 else 0 := zB_spec e2
  rw [e3] at hv1
  exact hv1
theorem gI_of {k : gK} {C : gOrc} {n pc pc' : Nat} {c : gCE} (hc0 : gB k C n pc pc' c) : gI k C n pc pc' (bI c) := by
  intro Γ ok L h b h' hh
  simp only [bI, Option.bind_eq_some_iff, Option.some.injEq, Prod.mk.injEq] at hh
  obtain ⟨⟨z, h1⟩, e1, rfl, rfl⟩ := hh
  exact hc0 Γ ok L h z h1 e1
def gLdI : Nat → Instr
  | 0 => .iaload
  | 2 => .laload
  | _ => .baload
def gStI : Nat → Instr
  | 0 => .iastore
  | 2 => .lastore
  | _ => .bastore
theorem g_idx {j : Int32} {i : Int} {n : Nat} (hj : j.toInt = i) (h0 : 0 ≤ i) (h1 : i < n) : vp_in j n ∧ ((j.toNatClampNeg : Nat) : Int) = i ∧ j.toNatClampNeg < n := by
  subst hj
  have e : ((j.toNatClampNeg : Nat) : Int) = j.toInt := by
    rw [show j.toNatClampNeg = j.toInt.toNat from rfl]
    exact Int.toNat_of_nonneg h0
  exact ⟨vp_in_iff.mpr ⟨h0, h1⟩, e, by omega⟩
theorem gEl_spec {ty : Nat} {h : gH} {r : Option Nat} {i v : Int} (he : gEl ty h r i = some v) : ∃ (a n : Nat) (f : Int → Int), r = some a ∧ h.2 a = some (oA ty n f) ∧ 0 ≤ i ∧ i < n ∧ v = f i := by
  unfold gEl at he
  split at he
  · rename_i a
    split at he
    · rename_i t n f hq
      split at he
      · rename_i hc
        obtain ⟨rfl, h1, h2⟩ := hc
        cases he
        exact ⟨a, n, f, rfl, hq, h1, h2, rfl⟩
      · cases he
    · cases he
  · cases he
theorem gLen_spec {h : gH} {r : Option Nat} {v : Int} (he : gLen h r = some v) : ∃ (a t n : Nat) (f : Int → Int), r = some a ∧ h.2 a = some (oA t n f) ∧ v = n := by
  unfold gLen at he
  split at he
  · rename_i a
    split at he
    · rename_i t n f hq
      cases he
      exact ⟨a, t, n, f, rfl, hq, rfl⟩
    · cases he
  · cases he
theorem gElq_spec {ty : Nat} {h : gH} {r : Option Nat} {i : Int} {v : Option Nat} (he : gElq ty h r i = some v) : ∃ (a n : Nat) (f : Int → Option Nat), r = some a ∧ h.2 a = some (oQ ty n f) ∧ 0 ≤ i ∧ i < n ∧ v = f i := by
  unfold gElq at he
  split at he
  · rename_i a
    split at he
    · rename_i t n f hq
      split at he
      · rename_i hc
        obtain ⟨rfl, h1, h2⟩ := hc
        cases he
        exact ⟨a, n, f, rfl, hq, h1, h2, rfl⟩
      · cases he
    · cases he
  · cases he
theorem gHR_arr {adK : Nat → Nat} {tys : gTs} {ws : va_W} {h : gH} (H : gHR adK tys ws h) {a ty n : Nat} {f : Int → Int} (ha : h.2 a = some (oA ty n f)) : ∃ (x : Nat) (cA : ClassId) (t0 : Nat), n < 2 ^ 31 ∧ tys[t0]? = some (cA, gTy ty) ∧ ((ty = 2 ∧ ∃ g : Nat → Int64, ws[a]? = some (x, .inl (cA, n, .inr (.inl g))) ∧ ∀ i : Nat, i < n → f i = (g i).toInt) ∨ (ty ≠ 2 ∧ ∃ g : Nat → Int32, ws[a]? = some (x, .inl (cA, n, .inl g)) ∧ ∀ i : Nat, i < n → f i = (g i).toInt)) := by
  obtain ⟨x, e, h1, hn, cA, ⟨t0, h2⟩, h3⟩ := H.2 a _ ha
  refine ⟨x, cA, t0, hn, h2, ?_⟩
  rcases h3 with ⟨h3, g, rfl, h4⟩ | ⟨h3, g, rfl, h4⟩
  · exact Or.inl ⟨h3, g, h1, h4⟩
  · exact Or.inr ⟨h3, g, h1, h4⟩
theorem gHR_arq {adK : Nat → Nat} {tys : gTs} {ws : va_W} {h : gH} (H : gHR adK tys ws h) {a ty n : Nat} {f : Int → Option Nat} (ha : h.2 a = some (oQ ty n f)) : ∃ (x : Nat) (cA : ClassId) (t0 : Nat) (g : Nat → Option Nat), n < 2 ^ 31 ∧ tys[t0]? = some (cA, FieldType.object (gTq ty)) ∧ ws[a]? = some (x, .inl (cA, n, .inr (.inr (.inr (.inr g))))) ∧ ∀ i : Nat, i < n → gRf ws (g i) (f i) := by
  obtain ⟨x, e, h1, hn, cA, ⟨t0, h2⟩, g, rfl, h4⟩ := H.2 a _ ha
  exact ⟨x, cA, t0, g, hn, h2, h1, h4⟩
section E4
variable {k : gK} {C : gOrc} {n pc : Nat}
theorem gI_ald {ty : Nat} {a : gRE} {i : gIE} {p1 p2 : Nat} (ht : ty ≠ 2) (ha : gR k C n pc p1 a) (hi : gI k C (n + 1) p1 p2 i) (hd : decode k.1 p2 = .ok (gLdI ty, 1)) : gI k C n pc (p2 + 1) (aI ty a i) := by
  intro Γ ok L h z h' he
  simp only [aI, Option.bind_eq_some_iff, Option.some.injEq, Prod.mk.injEq] at he
  obtain ⟨⟨r, h1⟩, e1, ⟨y, h2⟩, e2, z0, e3, rfl, rfl⟩ := he
  obtain ⟨q, N, f, rfl, hq, i0, i1, rfl⟩ := gEl_spec e3
  obtain ⟨g1, K1⟩ := ha Γ ok L h _ h1 e1
  obtain ⟨g2, K2⟩ := hi Γ ok L h1 _ h2 e2
  refine ⟨g1.tr g2, fun ws tys H locs ls rest hS hL hc hm kk => ?_⟩
  refine K1 ws tys H locs ls rest hS hL hc (gRm.le g2 hm) fun ws1 tys1 H1 locs1 w1 hS1 hx1 hv1 => ?_
  refine K2 ws1 tys1 H1 locs1 ls (w1 :: rest) hS1 (hL.ext hx1) (by rw [gCat_vR hv1]; omega) hm fun ws2 tys2 H2 locs2 w2 hS2 hx2 hv2 => ?_
  obtain ⟨D, adK, adV, A, ⟨p, l, e, R, s, m, args, below, meth, c, Q⟩, b, d⟩ := Γ
  obtain ⟨⟨hx, hb, hml, hown, hts⟩, -⟩ := ok
  have hv1' := gVr_ext hx2 hv1
  obtain ⟨j, rfl, hj⟩ := hv2
  obtain ⟨hK, hP, hD, hSS, hR, -, -⟩ := id hS2
  obtain ⟨x, cA, t0, hn, h3, ⟨h4, -⟩ | ⟨-, g, h5, h6⟩⟩ := gHR_arr hR hq
  · exact absurd h4 ht
  obtain ⟨x', e0, rfl, h7⟩ := hv1'
  rw [h5] at h7
  cases h7
  obtain ⟨j1, j2, j3⟩ := g_idx hj i0 i1
  have hk := kk ws2 tys2 H2 locs2 (.int (g j.toNatClampNeg)) hS2 (hx1.tr hx2) ⟨_, rfl, by rw [← h6 _ j3, j2]⟩
  match ty, ht, h3, hd with
  | 0, _, h3, hd => exact va_iald hx hb hK hP q t0 h5 h3 j1 hd hk
  | 1, _, h3, hd => exact va_bald hx hb hK hP q t0 h5 h3 j1 hd hk
  | k + 3, _, h3, hd => exact va_zald hx hb hK hP q t0 h5 h3 j1 hd hk
theorem gJ_ald {a : gRE} {i : gIE} {p1 p2 : Nat} (ha : gR k C n pc p1 a) (hi : gI k C (n + 1) p1 p2 i) (hd : decode k.1 p2 = .ok (.laload, 1)) : gJ k C n pc (p2 + 1) (aI 2 a i) := by
  intro Γ ok L h z h' he
  simp only [aI, Option.bind_eq_some_iff, Option.some.injEq, Prod.mk.injEq] at he
  obtain ⟨⟨r, h1⟩, e1, ⟨y, h2⟩, e2, z0, e3, rfl, rfl⟩ := he
  obtain ⟨q, N, f, rfl, hq, i0, i1, rfl⟩ := gEl_spec e3
  obtain ⟨g1, K1⟩ := ha Γ ok L h _ h1 e1
  obtain ⟨g2, K2⟩ := hi Γ ok L h1 _ h2 e2
  refine ⟨g1.tr g2, fun ws tys H locs ls rest hS hL hc hm kk => ?_⟩
  refine K1 ws tys H locs ls rest hS hL hc (gRm.le g2 hm) fun ws1 tys1 H1 locs1 w1 hS1 hx1 hv1 => ?_
  refine K2 ws1 tys1 H1 locs1 ls (w1 :: rest) hS1 (hL.ext hx1) (by rw [gCat_vR hv1]; omega) hm fun ws2 tys2 H2 locs2 w2 hS2 hx2 hv2 => ?_
  obtain ⟨D, adK, adV, A, ⟨p, l, e, R, s, m, args, below, meth, c, Q⟩, b, d⟩ := Γ
  obtain ⟨⟨hx, hb, hml, hown, hts⟩, -⟩ := ok
  have hv1' := gVr_ext hx2 hv1
  obtain ⟨j, rfl, hj⟩ := hv2
  obtain ⟨hK, hP, hD, hSS, hR, -, -⟩ := id hS2
  obtain ⟨x, cA, t0, hn, h3, ⟨-, g, h5, h6⟩ | ⟨h4, -⟩⟩ := gHR_arr hR hq
  · obtain ⟨x', e0, rfl, h7⟩ := hv1'
    rw [h5] at h7
    cases h7
    obtain ⟨j1, j2, j3⟩ := g_idx hj i0 i1
    exact va_lald hx hb hK hP q t0 h5 h3 j1 hd (kk ws2 tys2 H2 locs2 (.long (g j.toNatClampNeg)) hS2 (hx1.tr hx2) ⟨_, rfl, by rw [← h6 _ j3, j2]⟩)
  · exact absurd rfl h4
theorem gVr_rf {adK : Nat → Nat} {ws : va_W} {x r : Option Nat} (h : gRf ws x r) : gVr adK ws (va_rf x) (vR r) := by
  match r, h with
  | none, h =>
    have h1 : x = none := h
    subst h1
    rfl
  | some k, h =>
    obtain ⟨y, e, rfl, h2⟩ := h
    exact ⟨y, e, rfl, h2⟩
theorem gR_ald {ty : Nat} {a : gRE} {i : gIE} {p1 p2 : Nat} (ha : gR k C n pc p1 a) (hi : gI k C (n + 1) p1 p2 i) (hd : decode k.1 p2 = .ok (.aaload, 1)) : gR k C n pc (p2 + 1) (aQ ty a i) := by
  intro Γ ok L h z h' he
  simp only [aQ, Option.bind_eq_some_iff, Option.some.injEq, Prod.mk.injEq] at he
  obtain ⟨⟨r, h1⟩, e1, ⟨y, h2⟩, e2, z0, e3, rfl, rfl⟩ := he
  obtain ⟨q, N, f, rfl, hq, i0, i1, rfl⟩ := gElq_spec e3
  obtain ⟨g1, K1⟩ := ha Γ ok L h _ h1 e1
  obtain ⟨g2, K2⟩ := hi Γ ok L h1 _ h2 e2
  refine ⟨g1.tr g2, fun ws tys H locs ls rest hS hL hc hm kk => ?_⟩
  refine K1 ws tys H locs ls rest hS hL hc (gRm.le g2 hm) fun ws1 tys1 H1 locs1 w1 hS1 hx1 hv1 => ?_
  refine K2 ws1 tys1 H1 locs1 ls (w1 :: rest) hS1 (hL.ext hx1) (by rw [gCat_vR hv1]; omega) hm fun ws2 tys2 H2 locs2 w2 hS2 hx2 hv2 => ?_
  obtain ⟨D, adK, adV, A, ⟨p, l, e, R, s, m, args, below, meth, c, Q⟩, b, d⟩ := Γ
  obtain ⟨⟨hx, hb, hml, hown, hts⟩, -⟩ := ok
  have hv1' := gVr_ext hx2 hv1
  obtain ⟨j, rfl, hj⟩ := hv2
  obtain ⟨hK, hP, hD, hSS, hR, -, -⟩ := id hS2
  obtain ⟨x, cA, t0, g, hn, h3, h5, h6⟩ := gHR_arq hR hq
  obtain ⟨x', e0, rfl, h7⟩ := hv1'
  rw [h5] at h7
  cases h7
  obtain ⟨j1, j2, j3⟩ := g_idx hj i0 i1
  have hk := kk ws2 tys2 H2 locs2 (va_rf (g j.toNatClampNeg)) hS2 (hx1.tr hx2) (gVr_rf (by rw [← j2]; exact h6 _ j3))
  exact va_aldq hx hb hK hP q t0 h5 h3 j1 hd hk
theorem gI_alen {a : gRE} {p1 : Nat} (ha : gR k C n pc p1 a) (hd : decode k.1 p1 = .ok (.arraylength, 1)) : gI k C n pc (p1 + 1) (aN a) := by
  intro Γ ok L h z h' he
  simp only [aN, Option.bind_eq_some_iff, Option.some.injEq, Prod.mk.injEq] at he
  obtain ⟨⟨r, h1⟩, e1, z0, e3, rfl, rfl⟩ := he
  obtain ⟨g1, K1⟩ := ha Γ ok L h _ h1 e1
  refine ⟨g1, fun ws tys H locs ls rest hS hL hc hm kk => ?_⟩
  refine K1 ws tys H locs ls rest hS hL hc hm fun ws1 tys1 H1 locs1 w1 hS1 hx1 hv1 => ?_
  obtain ⟨D, adK, adV, A, ⟨p, l, e, R, s, m, args, below, meth, c, Q⟩, b, d⟩ := Γ
  obtain ⟨⟨hx, hb, hml, hown, hts⟩, -⟩ := ok
  obtain ⟨hK, hP, hD, hSS, hR, -, -⟩ := id hS1
  obtain ⟨q, t, N, f, rfl, hq, rfl⟩ := gLen_spec e3
  obtain ⟨x', e0, rfl, h7⟩ := hv1
  obtain ⟨x, cA, t0, hn, h3, ⟨-, g, h5, h6⟩ | ⟨-, g, h5, h6⟩⟩ := gHR_arr hR hq
  · rw [h5] at h7
    cases h7
    exact va_alen hx hb hK hP q t0 h5 h3 rfl hd (kk ws1 tys1 H1 locs1 (.int (nI N)) hS1 hx1 ⟨_, rfl, nI_toInt hn⟩)
  · rw [h5] at h7
    cases h7
    exact va_alen hx hb hK hP q t0 h5 h3 rfl hd (kk ws1 tys1 H1 locs1 (.int (nI N)) hS1 hx1 ⟨_, rfl, nI_toInt hn⟩)
end E4
