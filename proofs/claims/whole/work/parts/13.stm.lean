/-! STATEMENTS -/
def gRi (v : Option gAV) : Instr := match v with
  | none => .return_
  | some (.inl _) => .ireturn
  | some (.inr (.inl _)) => .lreturn
  | some (.inr (.inr _)) => .areturn
def gXt (k : gK) (Γ : gG) (pN pB pC : Nat) (ex : gEx) (H : Heap) (locs : List Loc) (h : gH) (ls : Array Slot) (ws : va_W) : Prop := match ex with
  | none => gW Γ H locs h (fun m => F0 m pN ls [])
  | some (1, _) => gW Γ H locs h (fun m => F0 m pB ls [])
  | some (2, _) => gW Γ H locs h (fun m => F0 m pC ls [])
  | some (3, v) => ∀ (w : Option Value) (pc : Nat) (ls1 : Array Slot), gRet Γ.2.1 ws w v → decode k.1 pc = .ok (gRi v, 1) → gW Γ H locs h (fun m => F0 m pc ls1 w.toList)
  | some _ => True
/-- code at pc does a statement: goes on at pN, breaks to pB, continues at pC, or returns -/
def gT (k : gK) (C : gOrc) (pc pN pB pC : Nat) (s : gSt) : Prop := ∀ Γ : gG, gOK k C Γ → ∀ (f : Nat) (L : gLo) (h : gH) (ex : gEx) (L' : gLo) (h' : gH), s f L h = some (ex, L', h') → gLe h h' ∧ ∀ (ws : va_W) (tys : gTs) (H : Heap) (locs : List Loc) (ls : Array Slot), gS Γ ws tys h H locs → gLR Γ k.2.2.1 ws ls L → gRm Γ h' →
  (∀ (ws' : va_W) (tys' : gTs) (H' : Heap) (locs' : List Loc) (ls' : Array Slot), gS Γ ws' tys' h' H' locs' → gExt ws ws' → gLR Γ k.2.2.1 ws' ls' L' → gXt k Γ pN pB pC ex H' locs' h' ls' ws') → gW Γ H locs h (fun m => F0 m pc ls [])
theorem gXt_pN {k : gK} {Γ : gG} {p q pB pC : Nat} {e : Nat × Option gAV} {H : Heap} {locs : List Loc} {h : gH} {ls : Array Slot} {ws : va_W} (hh : gXt k Γ p pB pC (some e) H locs h ls ws) : gXt k Γ q pB pC (some e) H locs h ls ws := by
  obtain ⟨j, v⟩ := e
  match j, hh with
  | 0, hh => exact hh
  | 1, hh => exact hh
  | 2, hh => exact hh
  | 3, hh => exact hh
  | j + 4, hh => exact hh
theorem gCat0 : gCat [] ≤ 0 := Nat.le_refl 0
section T1
variable {k : gK} {C : gOrc} {pc p1 p2 p3 pN pB pC : Nat}
theorem gT_sk : gT k C pc pc pB pC skS := by
  intro Γ ok f L h ex L' h' he
  simp only [skS, Option.some.injEq, Prod.mk.injEq] at he
  obtain ⟨rfl, rfl, rfl⟩ := he
  exact ⟨gLe.rf, fun ws tys H locs ls hS hL hm kk => kk ws tys H locs ls hS gExt.rf hL⟩
theorem gT_se {a b : gSt} (ha : gT k C pc p1 pB pC a) (hb : gT k C p1 pN pB pC b) : gT k C pc pN pB pC (seS a b) := by
  intro Γ ok f L h ex L' h' he
  simp only [seS, Option.bind_eq_some_iff] at he
  obtain ⟨⟨ex1, L1, h1⟩, e1, he⟩ := he
  obtain ⟨g1, K1⟩ := ha Γ ok f L h ex1 L1 h1 e1
  cases ex1 with
  | none =>
    obtain ⟨g2, K2⟩ := hb Γ ok f L1 h1 ex L' h' he
    refine ⟨g1.tr g2, fun ws tys H locs ls hS hL hm kk => ?_⟩
    refine K1 ws tys H locs ls hS hL (gRm.le g2 hm) fun ws1 tys1 H1 locs1 ls1 hS1 hx1 hL1 => ?_
    exact K2 ws1 tys1 H1 locs1 ls1 hS1 hL1 hm fun ws2 tys2 H2 locs2 ls2 hS2 hx2 hL2 => kk ws2 tys2 H2 locs2 ls2 hS2 (hx1.tr hx2) hL2
  | some e =>
    simp only [Option.some.injEq, Prod.mk.injEq] at he
    obtain ⟨rfl, rfl, rfl⟩ := he
    refine ⟨g1, fun ws tys H locs ls hS hL hm kk => ?_⟩
    refine K1 ws tys H locs ls hS hL hm fun ws1 tys1 H1 locs1 ls1 hS1 hx1 hL1 => ?_
    exact gXt_pN (kk ws1 tys1 H1 locs1 ls1 hS1 hx1 hL1)
theorem gT_j {s : gSt} {off : Int} {q : Nat} (hs : gT k C pc p1 pB pC s) (hd : decode k.1 p1 = .ok (.goto off, 3)) (ht : (p1 : Int) + off = (q : Int)) : gT k C pc q pB pC s := by
  intro Γ ok f L h ex L' h' he
  obtain ⟨g1, K1⟩ := hs Γ ok f L h ex L' h' he
  refine ⟨g1, fun ws tys H locs ls hS hL hm kk => ?_⟩
  refine K1 ws tys H locs ls hS hL hm fun ws1 tys1 H1 locs1 ls1 hS1 hx1 hL1 => ?_
  have kk2 := kk ws1 tys1 H1 locs1 ls1 hS1 hx1 hL1
  cases ex with
  | none =>
    obtain ⟨D, adK, adV, A, ⟨p, l, e, R, s, m, args, below, meth, c, Q⟩, b, d⟩ := Γ
    obtain ⟨⟨hx, hb, hml, hown, hts⟩, -⟩ := ok
    exact lv_goto hx hb hd ht kk2
  | some e => exact gXt_pN kk2
theorem gT_stI_n {i : Nat} {q : Fin 4} {e0 : gIE} (he0 : gI k C 0 pc p1 e0) (hq : (q : Nat) = i) (hi : i < k.2.2.1) (hd : decode k.1 p1 = .ok (.istore_n q, 1)) : gT k C pc (p1 + 1) pB pC (stI i e0) := by
  intro Γ ok f L h ex L' h' he
  simp only [stI, Option.bind_eq_some_iff, Option.some.injEq, Prod.mk.injEq] at he
  obtain ⟨⟨x, h1⟩, e1, rfl, rfl, rfl⟩ := he
  obtain ⟨g1, K1⟩ := he0 Γ ok L h x h1 e1
  refine ⟨g1, fun ws tys H locs ls hS hL hm kk => ?_⟩
  refine K1 ws tys H locs ls [] hS hL gCat0 hm fun ws1 tys1 H1 locs1 w1 hS1 hx1 hv1 => ?_
  have hv2 := hv1
  obtain ⟨i1, rfl, q1⟩ := hv1
  obtain ⟨D, adK, adV, A, ⟨p, l, e, R, s, m, args, below, meth, c, Q⟩, b, d⟩ := Γ
  obtain ⟨⟨hx, hb, hml, hown, hts⟩, -⟩ := ok
  exact lv_istore_n hx hb hd hq (lvL_has hL.1 hL.2.1) hi rfl fun ls' hl' => kk ws1 tys1 H1 locs1 ls' hS1 hx1 (gLR_st (hL.ext hx1) hv2 hl')
theorem gT_stI {i : Nat} {e0 : gIE} (he0 : gI k C 0 pc p1 e0) (hi : i < k.2.2.1) (hd : decode k.1 p1 = .ok (.istore i, 2)) : gT k C pc (p1 + 2) pB pC (stI i e0) := by
  intro Γ ok f L h ex L' h' he
  simp only [stI, Option.bind_eq_some_iff, Option.some.injEq, Prod.mk.injEq] at he
  obtain ⟨⟨x, h1⟩, e1, rfl, rfl, rfl⟩ := he
  obtain ⟨g1, K1⟩ := he0 Γ ok L h x h1 e1
  refine ⟨g1, fun ws tys H locs ls hS hL hm kk => ?_⟩
  refine K1 ws tys H locs ls [] hS hL gCat0 hm fun ws1 tys1 H1 locs1 w1 hS1 hx1 hv1 => ?_
  have hv2 := hv1
  obtain ⟨i1, rfl, q1⟩ := hv1
  obtain ⟨D, adK, adV, A, ⟨p, l, e, R, s, m, args, below, meth, c, Q⟩, b, d⟩ := Γ
  obtain ⟨⟨hx, hb, hml, hown, hts⟩, -⟩ := ok
  exact lv_istore hx hb hd (lvL_has hL.1 hL.2.1) hi rfl fun ls' hl' => kk ws1 tys1 H1 locs1 ls' hS1 hx1 (gLR_st (hL.ext hx1) hv2 hl')
theorem gT_stB_n {i : Nat} {q : Fin 4} {c : gCE} (he0 : gB k C 0 pc p1 c) (hq : (q : Nat) = i) (hi : i < k.2.2.1) (hd : decode k.1 p1 = .ok (.istore_n q, 1)) : gT k C pc (p1 + 1) pB pC (stB i c) := gT_stI_n (gI_of he0) hq hi hd
theorem gT_stB {i : Nat} {c : gCE} (he0 : gB k C 0 pc p1 c) (hi : i < k.2.2.1) (hd : decode k.1 p1 = .ok (.istore i, 2)) : gT k C pc (p1 + 2) pB pC (stB i c) := gT_stI (gI_of he0) hi hd
theorem gT_stL_n {i : Nat} {q : Fin 4} {e0 : gIE} (he0 : gJ k C 0 pc p1 e0) (hq : (q : Nat) = i) (hi : i + 1 < k.2.2.1) (hd : decode k.1 p1 = .ok (.lstore_n q, 1)) : gT k C pc (p1 + 1) pB pC (stL i e0) := by
  intro Γ ok f L h ex L' h' he
  simp only [stL, Option.bind_eq_some_iff, Option.some.injEq, Prod.mk.injEq] at he
  obtain ⟨⟨x, h1⟩, e1, rfl, rfl, rfl⟩ := he
  obtain ⟨g1, K1⟩ := he0 Γ ok L h x h1 e1
  refine ⟨g1, fun ws tys H locs ls hS hL hm kk => ?_⟩
  refine K1 ws tys H locs ls [] hS hL gCat0 hm fun ws1 tys1 H1 locs1 w1 hS1 hx1 hv1 => ?_
  have hv2 := hv1
  obtain ⟨i1, rfl, q1⟩ := hv1
  obtain ⟨D, adK, adV, A, ⟨p, l, e, R, s, m, args, below, meth, c, Q⟩, b, d⟩ := Γ
  obtain ⟨⟨hx, hb, hml, hown, hts⟩, -⟩ := ok
  exact lv_lstore_n hx hb hd hq (lvL_has hL.1 hL.2.1) hi rfl fun ls' hl' => kk ws1 tys1 H1 locs1 ls' hS1 hx1 (gLR_st2 (hL.ext hx1) hv2 hl')
theorem gT_stL {i : Nat} {e0 : gIE} (he0 : gJ k C 0 pc p1 e0) (hi : i + 1 < k.2.2.1) (hd : decode k.1 p1 = .ok (.lstore i, 2)) : gT k C pc (p1 + 2) pB pC (stL i e0) := by
  intro Γ ok f L h ex L' h' he
  simp only [stL, Option.bind_eq_some_iff, Option.some.injEq, Prod.mk.injEq] at he
  obtain ⟨⟨x, h1⟩, e1, rfl, rfl, rfl⟩ := he
  obtain ⟨g1, K1⟩ := he0 Γ ok L h x h1 e1
  refine ⟨g1, fun ws tys H locs ls hS hL hm kk => ?_⟩
  refine K1 ws tys H locs ls [] hS hL gCat0 hm fun ws1 tys1 H1 locs1 w1 hS1 hx1 hv1 => ?_
  have hv2 := hv1
  obtain ⟨i1, rfl, q1⟩ := hv1
  obtain ⟨D, adK, adV, A, ⟨p, l, e, R, s, m, args, below, meth, c, Q⟩, b, d⟩ := Γ
  obtain ⟨⟨hx, hb, hml, hown, hts⟩, -⟩ := ok
  exact lv_lstore hx hb hd (lvL_has hL.1 hL.2.1) hi rfl fun ls' hl' => kk ws1 tys1 H1 locs1 ls' hS1 hx1 (gLR_st2 (hL.ext hx1) hv2 hl')
theorem gT_stR_n {i : Nat} {q : Fin 4} {e0 : gRE} (he0 : gR k C 0 pc p1 e0) (hq : (q : Nat) = i) (hi : i < k.2.2.1) (hd : decode k.1 p1 = .ok (.astore_n q, 1)) : gT k C pc (p1 + 1) pB pC (stR i e0) := by
  intro Γ ok f L h ex L' h' he
  simp only [stR, Option.bind_eq_some_iff, Option.some.injEq, Prod.mk.injEq] at he
  obtain ⟨⟨x, h1⟩, e1, rfl, rfl, rfl⟩ := he
  obtain ⟨g1, K1⟩ := he0 Γ ok L h x h1 e1
  refine ⟨g1, fun ws tys H locs ls hS hL hm kk => ?_⟩
  refine K1 ws tys H locs ls [] hS hL gCat0 hm fun ws1 tys1 H1 locs1 w1 hS1 hx1 hv1 => ?_
  have hv2 := hv1
  obtain ⟨D, adK, adV, A, ⟨p, l, e, R, s, m, args, below, meth, c, Q⟩, b, d⟩ := Γ
  obtain ⟨⟨hx, hb, hml, hown, hts⟩, -⟩ := ok
  match x, hv1, hv2 with
  | none, hv1, hv2 =>
    have h3 : w1 = .null := hv1
    subst h3
    exact lv_astore_nN hx hb hd hq (lvL_has hL.1 hL.2.1) hi rfl fun ls' hl' => kk ws1 tys1 H1 locs1 ls' hS1 hx1 (gLR_st (hL.ext hx1) hv2 hl')
  | some y, hv1, hv2 =>
    obtain ⟨j, e0, rfl, hj⟩ := hv1
    exact lv_astore_n hx hb hd hq (lvL_has hL.1 hL.2.1) hi rfl fun ls' hl' => kk ws1 tys1 H1 locs1 ls' hS1 hx1 (gLR_st (hL.ext hx1) hv2 hl')
theorem gT_stR {i : Nat} {e0 : gRE} (he0 : gR k C 0 pc p1 e0) (hi : i < k.2.2.1) (hd : decode k.1 p1 = .ok (.astore i, 2)) : gT k C pc (p1 + 2) pB pC (stR i e0) := by
  intro Γ ok f L h ex L' h' he
  simp only [stR, Option.bind_eq_some_iff, Option.some.injEq, Prod.mk.injEq] at he
  obtain ⟨⟨x, h1⟩, e1, rfl, rfl, rfl⟩ := he
  obtain ⟨g1, K1⟩ := he0 Γ ok L h x h1 e1
  refine ⟨g1, fun ws tys H locs ls hS hL hm kk => ?_⟩
  refine K1 ws tys H locs ls [] hS hL gCat0 hm fun ws1 tys1 H1 locs1 w1 hS1 hx1 hv1 => ?_
  have hv2 := hv1
  obtain ⟨D, adK, adV, A, ⟨p, l, e, R, s, m, args, below, meth, c, Q⟩, b, d⟩ := Γ
  obtain ⟨⟨hx, hb, hml, hown, hts⟩, -⟩ := ok
  match x, hv1, hv2 with
  | none, hv1, hv2 =>
    have h3 : w1 = .null := hv1
    subst h3
    exact lv_astoreN hx hb hd (lvL_has hL.1 hL.2.1) hi rfl fun ls' hl' => kk ws1 tys1 H1 locs1 ls' hS1 hx1 (gLR_st (hL.ext hx1) hv2 hl')
  | some y, hv1, hv2 =>
    obtain ⟨j, e0, rfl, hj⟩ := hv1
    exact lv_astore hx hb hd (lvL_has hL.1 hL.2.1) hi rfl fun ls' hl' => kk ws1 tys1 H1 locs1 ls' hS1 hx1 (gLR_st (hL.ext hx1) hv2 hl')
theorem gT_in {i : Nat} {z : Int} (hz : (Int32.ofInt z).toInt = z) (hi : i < k.2.2.1) (hd : decode k.1 pc = .ok (.iinc i z, 3)) : gT k C pc (pc + 3) pB pC (inS i z) := by
  intro Γ ok f L h ex L' h' he
  simp only [inS] at he
  split at he
  · rename_i y hy
    simp only [Option.some.injEq, Prod.mk.injEq] at he
    obtain ⟨rfl, rfl, rfl⟩ := he
    refine ⟨gLe.rf, fun ws tys H locs ls hS hL hm kk => ?_⟩
    obtain ⟨w, w1, iv, rfl, hv⟩ := hL.2.2 i _ hy
    obtain ⟨q, hq⟩ := List.getElem?_of_mem (lvL_mem hL.1 w1)
    obtain ⟨D, adK, adV, A, ⟨p, l, e, R, s, m, args, below, meth, c, Q⟩, b, d⟩ := Γ
    obtain ⟨⟨hx, hb, hml, hown, hts⟩, -⟩ := ok
    refine lv_iinc hx hb hd (lvL_has hL.1 hL.2.1) hq rfl hi rfl fun ls' hl' => kk ws tys H locs ls' hS gExt.rf (gLR_st hL ⟨_, rfl, ?_⟩ hl')
    rw [Int32.toInt_add, hz, hv]
    rfl
  · cases he
/-- a field is written -/
theorem gT_pf {α : Type} {inj : α → gAV} {o : gRE} {e0 : gLo → gH → Option (α × gH)} {ix ci kf : Nat} {ty : FieldType} (hf : gPk k.2.2.2 k.2.1 ix ci kf ty) (hfit : ∀ a, gFits ty (inj a)) (ho : gR k C 0 pc p1 o) (he0 : gEvl inj k C 1 p1 p2 e0) (hd : decode k.1 p2 = .ok (.putfield ix, 3)) : gT k C pc (p2 + 3) pB pC (fun _ L h => (o L h).bind fun x => (e0 L x.2).bind fun y => (gPut ci kf (inj y.1) y.2 x.1).bind fun h' => some (none, L, h')) := by
  intro Γ ok f L h ex L' h' he
  simp only [Option.bind_eq_some_iff, Option.some.injEq, Prod.mk.injEq] at he
  obtain ⟨⟨x, h1⟩, e1, ⟨y, h2⟩, e2, h3, e3, rfl, rfl, rfl⟩ := he
  obtain ⟨g1, K1⟩ := ho Γ ok L h x h1 e1
  obtain ⟨g2, K2⟩ := he0 Γ ok L h1 y h2 e2
  have g3 : h3.1 = h2.1 := by
    obtain ⟨a, fs, -, -, -, rfl⟩ := gPut_spec e3
    rfl
  refine ⟨(g1.tr g2).tr (gLe.of g3), fun ws tys H locs ls hS hL hm kk => ?_⟩
  refine K1 ws tys H locs ls [] hS hL gCat0 (gRm.le (g2.tr (gLe.of g3)) hm) fun ws1 tys1 H1 locs1 w1 hS1 hx1 hv1 => ?_
  refine K2 ws1 tys1 H1 locs1 ls [w1] hS1 (hL.ext hx1) (by rw [gCat_vR hv1]; exact Nat.le_refl 1) (gRm.le (gLe.of g3) hm) fun ws2 tys2 H2 locs2 w2 hS2 hx2 hv2 => ?_
  exact g_putf ok hS2 hf (hfit y) hd e3 hv2 (gVr_ext hx2 hv1) fun ws3 H3 locs3 hS3 hx3 => kk ws3 tys2 H3 locs3 ls hS3 (hx1.tr (hx2.tr hx3)) (hL.ext (hx1.tr (hx2.tr hx3)))
theorem gT_pfI {o : gRE} {e0 : gIE} {ix ci kf : Nat} (hf : gPk k.2.2.2 k.2.1 ix ci kf .int) (ho : gR k C 0 pc p1 o) (he0 : gI k C 1 p1 p2 e0) (hd : decode k.1 p2 = .ok (.putfield ix, 3)) : gT k C pc (p2 + 3) pB pC (pfI ci kf o e0) := gT_pf hf gFits_i ho he0 hd
theorem gT_pfB {o : gRE} {e0 : gCE} {ix ci kf : Nat} (hf : gPk k.2.2.2 k.2.1 ix ci kf .boolean) (ho : gR k C 0 pc p1 o) (he0 : gB k C 1 p1 p2 e0) (hd : decode k.1 p2 = .ok (.putfield ix, 3)) : gT k C pc (p2 + 3) pB pC (pfB ci kf o e0) := gT_pf hf gFits_b ho he0 hd
theorem gT_pfL {o : gRE} {e0 : gIE} {ix ci kf : Nat} (hf : gPk k.2.2.2 k.2.1 ix ci kf .long) (ho : gR k C 0 pc p1 o) (he0 : gJ k C 1 p1 p2 e0) (hd : decode k.1 p2 = .ok (.putfield ix, 3)) : gT k C pc (p2 + 3) pB pC (pfL ci kf o e0) := gT_pf hf gFits_l ho he0 hd
theorem gT_pfO {o : gRE} {e0 : gRE} {ix ci kf : Nat} {Cn : String} (hf : gPk k.2.2.2 k.2.1 ix ci kf (.object Cn)) (ho : gR k C 0 pc p1 o) (he0 : gR k C 1 p1 p2 e0) (hd : decode k.1 p2 = .ok (.putfield ix, 3)) : gT k C pc (p2 + 3) pB pC (pfR ci kf o e0) := gT_pf hf (gFits_o Cn) ho he0 hd
theorem gT_pfA {o : gRE} {e0 : gRE} {ix ci kf : Nat} {t : FieldType} (hf : gPk k.2.2.2 k.2.1 ix ci kf (.array t)) (ho : gR k C 0 pc p1 o) (he0 : gR k C 1 p1 p2 e0) (hd : decode k.1 p2 = .ok (.putfield ix, 3)) : gT k C pc (p2 + 3) pB pC (pfR ci kf o e0) := gT_pf hf (gFits_a t) ho he0 hd
theorem gT_puI {o : gRE} {e0 : gIE} {ix ci kf : Nat} {ins : Instr} {g : Int → Int → Int} (hop : gOp2 ins g) (hr : gFk k.2.1 ix ci kf) (hf : gPk k.2.2.2 k.2.1 ix ci kf .int) (ho : gR k C 0 pc p1 o) (hd1 : decode k.1 p1 = .ok (.dup, 1)) (hd2 : decode k.1 (p1 + 1) = .ok (.getfield ix, 3)) (he0 : gI k C 2 (p1 + 1 + 3) p2 e0) (hd3 : decode k.1 p2 = .ok (ins, 1)) (hd : decode k.1 (p2 + 1) = .ok (.putfield ix, 3)) : gT k C pc (p2 + 1 + 3) pB pC (puI ci kf g o e0) := by
  intro Γ ok f L h ex L' h' he
  simp only [puI, Option.bind_eq_some_iff] at he
  obtain ⟨⟨x, h1⟩, e1, he⟩ := he
  split at he
  rotate_left
  · cases he
  rename_i z hz
  simp only [Option.bind_eq_some_iff, Option.some.injEq, Prod.mk.injEq] at he
  obtain ⟨⟨y, h2⟩, e2, h3, e3, rfl, rfl, rfl⟩ := he
  obtain ⟨g1, K1⟩ := ho Γ ok L h x h1 e1
  obtain ⟨g2, K2⟩ := he0 Γ ok L h1 y h2 e2
  have g3 : h3.1 = h2.1 := by
    obtain ⟨a, fs, -, -, -, rfl⟩ := gPut_spec e3
    rfl
  refine ⟨(g1.tr g2).tr (gLe.of g3), fun ws tys H locs ls hS hL hm kk => ?_⟩
  refine K1 ws tys H locs ls [] hS hL gCat0 (gRm.le (g2.tr (gLe.of g3)) hm) fun ws1 tys1 H1 locs1 w1 hS1 hx1 hv1 => ?_
  obtain ⟨a, fs, rfl, ha, hv⟩ := gFld_spec hz
  obtain ⟨wv, q1, q2⟩ := g_getf (h0 := h1) (rest := [w1]) (ls := ls) ok hS1 hr hd2 ha hv hv1
  have hcat : gCat (wv :: [w1]) ≤ 2 := by rw [gCat_vI q1, gCat_vR hv1]; exact Nat.le_refl 2
  have step := q2 (K2 ws1 tys1 H1 locs1 ls (wv :: [w1]) hS1 (hL.ext hx1) hcat (gRm.le (gLe.of g3) hm) fun ws2 tys2 H2 locs2 w2 hS2 hx2 hv2 => ?_)
  · obtain ⟨D, adK, adV, A, ⟨p, l, e, R, s, m, args, below, meth, c, Q⟩, b, d⟩ := Γ
    obtain ⟨⟨hx, hb, hml, hown, hts⟩, -⟩ := ok
    obtain ⟨y1, e9, rfl, -⟩ := id hv1
    exact lv_dup hx hb hd1 rfl step
  · obtain ⟨iv, rfl, hiv⟩ := q1
    obtain ⟨i2, rfl, hi2⟩ := hv2
    have fin : ∀ i : Int32, i.toInt = g iv.toInt i2.toInt → gW Γ H2 locs2 h2 (fun m => F0 m (p2 + 1) ls (.int i :: [w1])) := fun i hi =>
      g_putf ok hS2 hf (gFits_i _) hd e3 ⟨i, rfl, by rw [hi, hiv, hi2]⟩ (gVr_ext hx2 hv1) fun ws3 H3 locs3 hS3 hx3 => kk ws3 tys2 H3 locs3 ls hS3 (hx1.tr (hx2.tr hx3)) (hL.ext (hx1.tr (hx2.tr hx3)))
    obtain ⟨D, adK, adV, A, ⟨p, l, e, R, s, m, args, below, meth, c, Q⟩, b, d⟩ := Γ
    obtain ⟨⟨hx, hb, hml, hown, hts⟩, -⟩ := ok
    exact hop hx hb hd3 iv i2 fin
theorem gT_puL {o : gRE} {e0 : gIE} {ix ci kf : Nat} {ins : Instr} {g : Int → Int → Int} (hop : gOl2 ins g) (hr : gFk k.2.1 ix ci kf) (hf : gPk k.2.2.2 k.2.1 ix ci kf .long) (ho : gR k C 0 pc p1 o) (hd1 : decode k.1 p1 = .ok (.dup, 1)) (hd2 : decode k.1 (p1 + 1) = .ok (.getfield ix, 3)) (he0 : gJ k C 3 (p1 + 1 + 3) p2 e0) (hd3 : decode k.1 p2 = .ok (ins, 1)) (hd : decode k.1 (p2 + 1) = .ok (.putfield ix, 3)) : gT k C pc (p2 + 1 + 3) pB pC (puL ci kf g o e0) := by
  intro Γ ok f L h ex L' h' he
  simp only [puL, Option.bind_eq_some_iff] at he
  obtain ⟨⟨x, h1⟩, e1, he⟩ := he
  split at he
  rotate_left
  · cases he
  rename_i z hz
  simp only [Option.bind_eq_some_iff, Option.some.injEq, Prod.mk.injEq] at he
  obtain ⟨⟨y, h2⟩, e2, h3, e3, rfl, rfl, rfl⟩ := he
  obtain ⟨g1, K1⟩ := ho Γ ok L h x h1 e1
  obtain ⟨g2, K2⟩ := he0 Γ ok L h1 y h2 e2
  have g3 : h3.1 = h2.1 := by
    obtain ⟨a, fs, -, -, -, rfl⟩ := gPut_spec e3
    rfl
  refine ⟨(g1.tr g2).tr (gLe.of g3), fun ws tys H locs ls hS hL hm kk => ?_⟩
  refine K1 ws tys H locs ls [] hS hL gCat0 (gRm.le (g2.tr (gLe.of g3)) hm) fun ws1 tys1 H1 locs1 w1 hS1 hx1 hv1 => ?_
  obtain ⟨a, fs, rfl, ha, hv⟩ := gFld_spec hz
  obtain ⟨wv, q1, q2⟩ := g_getf (h0 := h1) (rest := [w1]) (ls := ls) ok hS1 hr hd2 ha hv hv1
  have hcat : gCat (wv :: [w1]) ≤ 3 := by rw [gCat_vL q1, gCat_vR hv1]; exact Nat.le_refl 3
  have step := q2 (K2 ws1 tys1 H1 locs1 ls (wv :: [w1]) hS1 (hL.ext hx1) hcat (gRm.le (gLe.of g3) hm) fun ws2 tys2 H2 locs2 w2 hS2 hx2 hv2 => ?_)
  · obtain ⟨D, adK, adV, A, ⟨p, l, e, R, s, m, args, below, meth, c, Q⟩, b, d⟩ := Γ
    obtain ⟨⟨hx, hb, hml, hown, hts⟩, -⟩ := ok
    obtain ⟨y1, e9, rfl, -⟩ := id hv1
    exact lv_dup hx hb hd1 rfl step
  · obtain ⟨iv, rfl, hiv⟩ := q1
    obtain ⟨i2, rfl, hi2⟩ := hv2
    have fin : ∀ i : Int64, i.toInt = g iv.toInt i2.toInt → gW Γ H2 locs2 h2 (fun m => F0 m (p2 + 1) ls (.long i :: [w1])) := fun i hi =>
      g_putf ok hS2 hf (gFits_l _) hd e3 ⟨i, rfl, by rw [hi, hiv, hi2]⟩ (gVr_ext hx2 hv1) fun ws3 H3 locs3 hS3 hx3 => kk ws3 tys2 H3 locs3 ls hS3 (hx1.tr (hx2.tr hx3)) (hL.ext (hx1.tr (hx2.tr hx3)))
    obtain ⟨D, adK, adV, A, ⟨p, l, e, R, s, m, args, below, meth, c, Q⟩, b, d⟩ := Γ
    obtain ⟨⟨hx, hb, hml, hown, hts⟩, -⟩ := ok
    exact hop hx hb hd3 iv i2 fin
end T1
