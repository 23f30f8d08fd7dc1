/-! WHAT IT MEANS THAT CODE DOES AN EXPRESSION; the rules, instruction by instruction -/
def gPc (D : va_G) (adK adV : Nat → Nat) (tys : gTs) (ws : va_W) (sz : Nat) (vals : List Value) : Array Value → State → Prop := va_Pc vals (fun U => U.heap.size = sz ∧ va_P D vwCl ws U.heap ∧ va_K D vwCl tys U ∧ va_D (fun _ => True) ws ∧ gEv gNw gSr adK adV (va_A ws sz) U U.heap)
def gQc (D : va_G) (adK : Nat → Nat) (ws : va_W) (sz : Nat) (r : Option gAV) (h' : gH) : Array Value → State → Outcome → State → Prop := fun _ st oc t => (∃ (w : Option Value) (ws' : va_W) (tys' : gTs), oc = .returned w ∧ gRet adK ws' w r ∧ va_P D vwCl ws' t.heap ∧ va_K D vwCl tys' t ∧ va_D (va_A ws sz) ws' ∧ gHR adK tys' ws' h' ∧ gExt ws ws') ∧ va_F (va_A ws sz) st t
def gMet (l : Launch) (D : va_G) (adK adV : Nat → Nat) (d : Nat) (mi : gMi) (as : List gAV) (h : gH) (r : Option gAV) (h' : gH) : Prop := ∀ (ws : va_W) (tys : gTs) (sz : Nat) (vals : List Value), gHR adK tys ws h → gArgs adK ws vals as → Met l mi.1 (.code mi.1 mi.2.1 mi.2.2.1 mi.2.2.2.1 :: gTw) (gRoom d (h'.1.2.1 - h.1.2.1) (h'.1.2.2 - h.1.2.2)) (gPc D adK adV tys ws sz vals) (gQc D adK ws sz r h') (h'.1.2.1 - h.1.2.1) (h'.1.2.2 - h.1.2.2) (va_A ws sz)
def gRcv (ci : Option Nat) (as : List gAV) (h : gH) : Prop := match ci with
  | none => True
  | some c => ∃ (k : Nat) (fs : List gAV) (r : List gAV), as = vR (some k) :: r ∧ h.2 k = some (oO c fs)
def gOrcOK (l : Launch) (D : va_G) (adK adV : Nat → Nat) (d : Nat) (C : gOrc) : Prop := ∀ (m : Nat) (as : List gAV) (h : gH) (r : Option gAV) (h' : gH), C m as h = some (r, h') → ∃ mi : gMi, gMt[m]? = some mi ∧ gRcv mi.2.2.2.2 as h ∧ gLe h h' ∧ gMet l D adK adV d mi as h r h'
def gOK (k : gK) (C : gOrc) (Γ : gG) : Prop := match Γ with
  | (D, adK, adV, A, (p, l, _, R, s, m, args, _, meth, c, _), _, d) => CallFix p m c k.1 k.2.2.1 s args gTw k.2.1 ∧ (∀ q, s.heap.size ≤ q → A q) ∧ d + 1 ≤ R.frames ∧ 64 * (d + 1) ≤ R.locals ∧ gEv gNw gSr adK adV A s s.heap ∧ gOrcOK l D adK adV d C ∧ (k.2.2.2 = true → meth.name = "<init>")
def gS (Γ : gG) (ws : va_W) (tys : gTs) (h : gH) (H : Heap) (locs : List Loc) : Prop := match Γ with
  | (D, adK, _, A, (_, _, _, _, s, _, _, _, _, _, _), b, _) => va_K D vwCl tys s ∧ va_P D vwCl ws H ∧ va_D A ws ∧ va_S A s.heap H locs ∧ gHR adK tys ws h ∧ b.1 ≤ h.1.2.1 ∧ b.2 ≤ h.1.2.2
def gLR (Γ : gG) (nL : Nat) (ws : va_W) (ls : Array Slot) (L : gLo) : Prop := ls.size = nL ∧ lv_wf ls ∧ ∀ (i : Nat) (v : gAV), L[i]? = some (some v) → ∃ w : Value, ls[i]? = some (.val w) ∧ gVr Γ.2.1 ws w v
def gRm (Γ : gG) (h : gH) : Prop := match Γ with
  | (_, _, _, _, (_, _, _, R, _, _, _, _, _, _, _), b, _) => h.1.2.1 - b.1 ≤ R.cells ∧ h.1.2.2 - b.2 ≤ R.slots
def gW (Γ : gG) (H : Heap) (locs : List Loc) (h : gH) (g : MethodId → JFrame) : Prop := match Γ with
  | (_, _, _, _, (p, l, e, R, s, m, args, below, meth, c, Q), b, _) => W p l e R s m args below meth c H locs (h.1.2.1 - b.1) (h.1.2.2 - b.2) Q (g m)
def gCat (st : List Value) : Nat := (st.map fun v => v.category).sum
theorem gLR.ext {Γ : gG} {nL : Nat} {ws ws' : va_W} {ls : Array Slot} {L : gLo} (h : gLR Γ nL ws ls L) (hx : gExt ws ws') : gLR Γ nL ws' ls L := ⟨h.1, h.2.1, fun i v hv => by
  obtain ⟨w, h1, h2⟩ := h.2.2 i v hv
  exact ⟨w, h1, gVr_ext hx h2⟩⟩
theorem gRm.le {Γ : gG} {h h' : gH} (q : gLe h h') (g : gRm Γ h') : gRm Γ h := by
  obtain ⟨D, adK, adV, A, ⟨p, l, e, R, s, m, args, below, meth, c, Q⟩, b, d⟩ := Γ
  obtain ⟨q1, q2, q3⟩ := q
  obtain ⟨g1, g2⟩ := g
  exact ⟨Nat.le_trans (Nat.sub_le_sub_right q2 _) g1, Nat.le_trans (Nat.sub_le_sub_right q3 _) g2⟩
/-- code from pc to pc' leaves the value of e on the stack (below it n words at most) -/
def gEvl {α : Type} (inj : α → gAV) (k : gK) (C : gOrc) (n pc pc' : Nat) (e : gLo → gH → Option (α × gH)) : Prop := ∀ Γ : gG, gOK k C Γ → ∀ (L : gLo) (h : gH) (a : α) (h' : gH), e L h = some (a, h') → gLe h h' ∧ ∀ (ws : va_W) (tys : gTs) (H : Heap) (locs : List Loc) (ls : Array Slot) (rest : List Value), gS Γ ws tys h H locs → gLR Γ k.2.2.1 ws ls L → gCat rest ≤ n → gRm Γ h' →
  (∀ (ws' : va_W) (tys' : gTs) (H' : Heap) (locs' : List Loc) (w : Value), gS Γ ws' tys' h' H' locs' → gExt ws ws' → gVr Γ.2.1 ws' w (inj a) → gW Γ H' locs' h' (fun m => F0 m pc' ls (w :: rest))) → gW Γ H locs h (fun m => F0 m pc ls rest)
abbrev gI (k : gK) (C : gOrc) (n pc pc' : Nat) (e : gIE) : Prop := gEvl vI k C n pc pc' e
abbrev gJ (k : gK) (C : gOrc) (n pc pc' : Nat) (e : gIE) : Prop := gEvl vL k C n pc pc' e
abbrev gR (k : gK) (C : gOrc) (n pc pc' : Nat) (e : gRE) : Prop := gEvl vR k C n pc pc' e
abbrev gZ (k : gK) (C : gOrc) (n pc pc' : Nat) (e : gSE) : Prop := gEvl vS k C n pc pc' e
section E1
variable {k : gK} {C : gOrc} {n pc : Nat}
theorem gI_iconst {v z : Int} (hd : decode k.1 pc = .ok (.iconst v, 1)) (hz : (Int32.ofInt v).toInt = z) : gI k C n pc (pc + 1) (kI z) := by
  intro Γ ok L h a h' he
  simp only [kI, Option.some.injEq, Prod.mk.injEq] at he
  obtain ⟨rfl, rfl⟩ := he
  refine ⟨gLe.rf, fun ws tys H locs ls rest hS hL hc hm kk => ?_⟩
  obtain ⟨D, adK, adV, A, ⟨p, l, e, R, s, m, args, below, meth, c, Q⟩, b, d⟩ := Γ
  obtain ⟨⟨hx, hb, hml, hown, hts⟩, -⟩ := ok
  exact lv_iconst hx hb hd rfl (kk ws tys H locs _ hS gExt.rf ⟨_, rfl, hz⟩)
theorem gI_bipush {v z : Int} (hd : decode k.1 pc = .ok (.bipush v, 2)) (hz : (Int8.ofInt v).toInt32.toInt = z) : gI k C n pc (pc + 2) (kI z) := by
  intro Γ ok L h a h' he
  simp only [kI, Option.some.injEq, Prod.mk.injEq] at he
  obtain ⟨rfl, rfl⟩ := he
  refine ⟨gLe.rf, fun ws tys H locs ls rest hS hL hc hm kk => ?_⟩
  obtain ⟨D, adK, adV, A, ⟨p, l, e, R, s, m, args, below, meth, c, Q⟩, b, d⟩ := Γ
  obtain ⟨⟨hx, hb, hml, hown, hts⟩, -⟩ := ok
  exact lv_bipush hx hb hd rfl (kk ws tys H locs _ hS gExt.rf ⟨_, rfl, hz⟩)
theorem gI_sipush {v z : Int} (hd : decode k.1 pc = .ok (.sipush v, 3)) (hz : (Int16.ofInt v).toInt32.toInt = z) : gI k C n pc (pc + 3) (kI z) := by
  intro Γ ok L h a h' he
  simp only [kI, Option.some.injEq, Prod.mk.injEq] at he
  obtain ⟨rfl, rfl⟩ := he
  refine ⟨gLe.rf, fun ws tys H locs ls rest hS hL hc hm kk => ?_⟩
  obtain ⟨D, adK, adV, A, ⟨p, l, e, R, s, m, args, below, meth, c, Q⟩, b, d⟩ := Γ
  obtain ⟨⟨hx, hb, hml, hown, hts⟩, -⟩ := ok
  exact lv_sipush hx hb hd rfl (kk ws tys H locs _ hS gExt.rf ⟨_, rfl, hz⟩)
theorem gI_ldc {ix : Nat} {v : Int32} {z : Int} (hw : Cond.constant k.2.1 ix v ∈ gTw) (hd : decode k.1 pc = .ok (.ldc ix, 2)) (hz : v.toInt = z) : gI k C n pc (pc + 2) (kI z) := by
  intro Γ ok L h a h' he
  simp only [kI, Option.some.injEq, Prod.mk.injEq] at he
  obtain ⟨rfl, rfl⟩ := he
  refine ⟨gLe.rf, fun ws tys H locs ls rest hS hL hc hm kk => ?_⟩
  obtain ⟨D, adK, adV, A, ⟨p, l, e, R, s, m, args, below, meth, c, Q⟩, b, d⟩ := Γ
  obtain ⟨⟨hx, hb, hml, hown, hts⟩, -⟩ := ok
  exact lv_ldc hx hb hown (hts _ hw) hd (kk ws tys H locs _ hS gExt.rf ⟨_, rfl, hz⟩)
theorem gI_ldcw {ix : Nat} {v : Int32} {z : Int} (hw : Cond.constant k.2.1 ix v ∈ gTw) (hd : decode k.1 pc = .ok (.ldc_w ix, 3)) (hz : v.toInt = z) : gI k C n pc (pc + 3) (kI z) := by
  intro Γ ok L h a h' he
  simp only [kI, Option.some.injEq, Prod.mk.injEq] at he
  obtain ⟨rfl, rfl⟩ := he
  refine ⟨gLe.rf, fun ws tys H locs ls rest hS hL hc hm kk => ?_⟩
  obtain ⟨D, adK, adV, A, ⟨p, l, e, R, s, m, args, below, meth, c, Q⟩, b, d⟩ := Γ
  obtain ⟨⟨hx, hb, hml, hown, hts⟩, -⟩ := ok
  exact lv_ldcw hx hb hown (hts _ hw) hd (kk ws tys H locs _ hS gExt.rf ⟨_, rfl, hz⟩)
theorem gJ_lconst {v : Fin 2} {z : Int} (hd : decode k.1 pc = .ok (.lconst v, 1)) (hz : (Int64.ofNat (v : Nat)).toInt = z) : gJ k C n pc (pc + 1) (kI z) := by
  intro Γ ok L h a h' he
  simp only [kI, Option.some.injEq, Prod.mk.injEq] at he
  obtain ⟨rfl, rfl⟩ := he
  refine ⟨gLe.rf, fun ws tys H locs ls rest hS hL hc hm kk => ?_⟩
  obtain ⟨D, adK, adV, A, ⟨p, l, e, R, s, m, args, below, meth, c, Q⟩, b, d⟩ := Γ
  obtain ⟨⟨hx, hb, hml, hown, hts⟩, -⟩ := ok
  exact lv_lconst hx hb hd rfl (kk ws tys H locs _ hS gExt.rf ⟨_, rfl, hz⟩)
theorem gJ_ldc2 {ix : Nat} {v : Int64} {z : Int} (hw : Cond.constantLong k.2.1 ix v ∈ gTw) (hd : decode k.1 pc = .ok (.ldc2_w ix, 3)) (hz : v.toInt = z) : gJ k C n pc (pc + 3) (kI z) := by
  intro Γ ok L h a h' he
  simp only [kI, Option.some.injEq, Prod.mk.injEq] at he
  obtain ⟨rfl, rfl⟩ := he
  refine ⟨gLe.rf, fun ws tys H locs ls rest hS hL hc hm kk => ?_⟩
  obtain ⟨D, adK, adV, A, ⟨p, l, e, R, s, m, args, below, meth, c, Q⟩, b, d⟩ := Γ
  obtain ⟨⟨hx, hb, hml, hown, hts⟩, -⟩ := ok
  exact lv_ldc2 hx hb hown (hts _ hw) hd (kk ws tys H locs _ hS gExt.rf ⟨_, rfl, hz⟩)
theorem gZ_ldc {ix j : Nat} {own tx : String} (ho : own = k.2.1) (hw : (own, ix, tx, j) ∈ gSr) (hj : j < gTxt.length) (hd : decode k.1 pc = .ok (.ldc ix, 2)) : gZ k C n pc (pc + 2) (kS j) := by
  intro Γ ok L h a h' he
  simp only [kS, Option.some.injEq, Prod.mk.injEq] at he
  obtain ⟨rfl, rfl⟩ := he
  refine ⟨gLe.rf, fun ws tys H locs ls rest hS hL hc hm kk => ?_⟩
  obtain ⟨D, adK, adV, A, ⟨p, l, e, R, s, m, args, below, meth, c, Q⟩, b, d⟩ := Γ
  obtain ⟨⟨hx, hb, hml, hown, hts⟩, hA, hfr, hlo, ⟨hN, hZ, hV⟩, hC, hIn⟩ := ok
  subst ho
  exact va_ldcS hx hb hown (hZ _ hw) hd (kk ws tys H locs _ hS gExt.rf ⟨hj, rfl⟩)
theorem gI_load_n {i : Nat} {q : Fin 4} (hq : (q : Nat) = i) (hd : decode k.1 pc = .ok (.iload_n q, 1)) : gI k C n pc (pc + 1) (lI i) := by
  intro Γ ok L h a h' he
  unfold lI at he
  split at he
  · rename_i z hz
    simp only [Option.some.injEq, Prod.mk.injEq] at he
    obtain ⟨rfl, rfl⟩ := he
    refine ⟨gLe.rf, fun ws tys H locs ls rest hS hL hc hm kk => ?_⟩
    obtain ⟨w, h1, h2⟩ := hL.2.2 _ _ hz
    obtain ⟨D, adK, adV, A, ⟨p, l, e, R, s, m, args, below, meth, c, Q⟩, b, d⟩ := Γ
    obtain ⟨⟨hx, hb, hml, hown, hts⟩, -⟩ := ok
    obtain ⟨j, rfl, hj⟩ := id h2
    exact lv_iload_n hx hb hd hq h1 (kk ws tys H locs _ hS gExt.rf h2)
  · cases he
theorem gI_load {i : Nat} (hd : decode k.1 pc = .ok (.iload i, 2)) : gI k C n pc (pc + 2) (lI i) := by
  intro Γ ok L h a h' he
  unfold lI at he
  split at he
  · rename_i z hz
    simp only [Option.some.injEq, Prod.mk.injEq] at he
    obtain ⟨rfl, rfl⟩ := he
    refine ⟨gLe.rf, fun ws tys H locs ls rest hS hL hc hm kk => ?_⟩
    obtain ⟨w, h1, h2⟩ := hL.2.2 _ _ hz
    obtain ⟨D, adK, adV, A, ⟨p, l, e, R, s, m, args, below, meth, c, Q⟩, b, d⟩ := Γ
    obtain ⟨⟨hx, hb, hml, hown, hts⟩, -⟩ := ok
    obtain ⟨j, rfl, hj⟩ := id h2
    exact lv_iload hx hb hd h1 (kk ws tys H locs _ hS gExt.rf h2)
  · cases he
theorem gJ_load_n {i : Nat} {q : Fin 4} (hq : (q : Nat) = i) (hd : decode k.1 pc = .ok (.lload_n q, 1)) : gJ k C n pc (pc + 1) (lL i) := by
  intro Γ ok L h a h' he
  unfold lL at he
  split at he
  · rename_i z hz
    simp only [Option.some.injEq, Prod.mk.injEq] at he
    obtain ⟨rfl, rfl⟩ := he
    refine ⟨gLe.rf, fun ws tys H locs ls rest hS hL hc hm kk => ?_⟩
    obtain ⟨w, h1, h2⟩ := hL.2.2 _ _ hz
    obtain ⟨D, adK, adV, A, ⟨p, l, e, R, s, m, args, below, meth, c, Q⟩, b, d⟩ := Γ
    obtain ⟨⟨hx, hb, hml, hown, hts⟩, -⟩ := ok
    obtain ⟨j, rfl, hj⟩ := id h2
    exact lv_lload_n hx hb hd hq h1 (kk ws tys H locs _ hS gExt.rf h2)
  · cases he
theorem gJ_load {i : Nat} (hd : decode k.1 pc = .ok (.lload i, 2)) : gJ k C n pc (pc + 2) (lL i) := by
  intro Γ ok L h a h' he
  unfold lL at he
  split at he
  · rename_i z hz
    simp only [Option.some.injEq, Prod.mk.injEq] at he
    obtain ⟨rfl, rfl⟩ := he
    refine ⟨gLe.rf, fun ws tys H locs ls rest hS hL hc hm kk => ?_⟩
    obtain ⟨w, h1, h2⟩ := hL.2.2 _ _ hz
    obtain ⟨D, adK, adV, A, ⟨p, l, e, R, s, m, args, below, meth, c, Q⟩, b, d⟩ := Γ
    obtain ⟨⟨hx, hb, hml, hown, hts⟩, -⟩ := ok
    obtain ⟨j, rfl, hj⟩ := id h2
    exact lv_lload hx hb hd h1 (kk ws tys H locs _ hS gExt.rf h2)
  · cases he
theorem gR_load_n {i : Nat} {q : Fin 4} (hq : (q : Nat) = i) (hd : decode k.1 pc = .ok (.aload_n q, 1)) : gR k C n pc (pc + 1) (lR i) := by
  intro Γ ok L h a h' he
  unfold lR at he
  split at he
  · rename_i z hz
    simp only [Option.some.injEq, Prod.mk.injEq] at he
    obtain ⟨rfl, rfl⟩ := he
    refine ⟨gLe.rf, fun ws tys H locs ls rest hS hL hc hm kk => ?_⟩
    obtain ⟨w, h1, h2⟩ := hL.2.2 _ _ hz
    obtain ⟨D, adK, adV, A, ⟨p, l, e, R, s, m, args, below, meth, c, Q⟩, b, d⟩ := Γ
    obtain ⟨⟨hx, hb, hml, hown, hts⟩, -⟩ := ok
    match z, h2 with
    | none, h2 =>
      have h3 : w = .null := h2
      subst h3
      exact lv_aload_nN hx hb hd hq h1 (kk ws tys H locs _ hS gExt.rf h2)
    | some y, h2 =>
      obtain ⟨j, e0, rfl, hj⟩ := id h2
      exact lv_aload_n hx hb hd hq h1 (kk ws tys H locs _ hS gExt.rf h2)
  · cases he
theorem gR_load {i : Nat} (hd : decode k.1 pc = .ok (.aload i, 2)) : gR k C n pc (pc + 2) (lR i) := by
  intro Γ ok L h a h' he
  unfold lR at he
  split at he
  · rename_i z hz
    simp only [Option.some.injEq, Prod.mk.injEq] at he
    obtain ⟨rfl, rfl⟩ := he
    refine ⟨gLe.rf, fun ws tys H locs ls rest hS hL hc hm kk => ?_⟩
    obtain ⟨w, h1, h2⟩ := hL.2.2 _ _ hz
    obtain ⟨D, adK, adV, A, ⟨p, l, e, R, s, m, args, below, meth, c, Q⟩, b, d⟩ := Γ
    obtain ⟨⟨hx, hb, hml, hown, hts⟩, -⟩ := ok
    match z, h2 with
    | none, h2 =>
      have h3 : w = .null := h2
      subst h3
      exact lv_aloadN hx hb hd h1 (kk ws tys H locs _ hS gExt.rf h2)
    | some y, h2 =>
      obtain ⟨j, e0, rfl, hj⟩ := id h2
      exact lv_aload hx hb hd h1 (kk ws tys H locs _ hS gExt.rf h2)
  · cases he
theorem gZ_load_n {i : Nat} {q : Fin 4} (hq : (q : Nat) = i) (hd : decode k.1 pc = .ok (.aload_n q, 1)) : gZ k C n pc (pc + 1) (lS i) := by
  intro Γ ok L h a h' he
  unfold lS at he
  split at he
  · rename_i z hz
    simp only [Option.some.injEq, Prod.mk.injEq] at he
    obtain ⟨rfl, rfl⟩ := he
    refine ⟨gLe.rf, fun ws tys H locs ls rest hS hL hc hm kk => ?_⟩
    obtain ⟨w, h1, h2⟩ := hL.2.2 _ _ hz
    obtain ⟨D, adK, adV, A, ⟨p, l, e, R, s, m, args, below, meth, c, Q⟩, b, d⟩ := Γ
    obtain ⟨⟨hx, hb, hml, hown, hts⟩, -⟩ := ok
    obtain ⟨j, rfl⟩ := id h2
    exact lv_aload_n hx hb hd hq h1 (kk ws tys H locs _ hS gExt.rf h2)
  · cases he
theorem gZ_load {i : Nat} (hd : decode k.1 pc = .ok (.aload i, 2)) : gZ k C n pc (pc + 2) (lS i) := by
  intro Γ ok L h a h' he
  unfold lS at he
  split at he
  · rename_i z hz
    simp only [Option.some.injEq, Prod.mk.injEq] at he
    obtain ⟨rfl, rfl⟩ := he
    refine ⟨gLe.rf, fun ws tys H locs ls rest hS hL hc hm kk => ?_⟩
    obtain ⟨w, h1, h2⟩ := hL.2.2 _ _ hz
    obtain ⟨D, adK, adV, A, ⟨p, l, e, R, s, m, args, below, meth, c, Q⟩, b, d⟩ := Γ
    obtain ⟨⟨hx, hb, hml, hown, hts⟩, -⟩ := ok
    obtain ⟨j, rfl⟩ := id h2
    exact lv_aload hx hb hd h1 (kk ws tys H locs _ hS gExt.rf h2)
  · cases he
end E1
