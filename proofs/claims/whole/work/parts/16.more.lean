/-! MORE RULES: wide string constants, a field divided, Object's constructor on this, calls on strings, new objects' fields -/
section V1
variable {p : Program} {l : Launch} {e : Env} {R : Room} {s : State} {m : MethodId} {args : Array Value} {below : List Frame} {meth : Method} {c : Code} {H : Heap} {locs : List Loc} {cells slots : Nat} {Q : State → Prop} {cc : ByteArray} {pc : Nat} {ls : Array Slot} {rest : List Value}
theorem g_ldcSW (hexec : p.tables.exec = Jvm.exec) (hb : c.code = cc) {own tx : String} {index q : Nat} (hown : s.vm.findClass own = some m.cls) (hZ : vk_R own index tx q s) (hdg : decode cc pc = .ok (.ldc_w index, 3))
    (kk : W p l e R s m args below meth c H locs cells slots Q (F0 m (pc + 3) ls (.ref q :: rest))) : W p l e R s m args below meth c H locs cells slots Q (F0 m pc ls rest) := by
  intro T hT X
  obtain ⟨t, a1, b1⟩ := kk T hT X
  refine ⟨t, ?_, b1⟩
  obtain ⟨k, cf, i, a', hk, hcf, hcp, -, hr, hev'⟩ := Cond.stringRef_spec hown hZ.1
  cases hZ.2.symm.trans hev'
  obtain ⟨k', hk', he⟩ := X.warmed.alike.2.2 _ _ hk
  have hr' : k'.resolved[index]? = some (some (.string q)) := by
    rcases X.warmed.entry hk hk' index with h | ⟨h, -⟩
    · rw [h]; exact hr
    · rw [hr] at h; cases h
  jvm_step X.here [hexec, hb, hdg, ldc_w.wp_string (e := e) (s := T) (f := F0 m pc ls rest) X.here.top hk' (by rw [he]; exact hcf) hcp hr']
  exact a1
end V1
def obS : gSt := fun _ L h => (lR 0 L h).bind fun x => match x.1 with
  | some _ => some (none, L, x.2)
  | none => none
/-- a field divided -/
def puLp (ci k : Nat) (f : Int → Int → Int) (o : gRE) (e : gIE) : gSt := fun _ L h => (o L h).bind fun x => match gFld ci k x.2 x.1 with
  | some (.inr (.inl z)) => (e L x.2).bind fun y => if y.1 = 0 then none else (gPut ci k (vL (f z y.1)) y.2 x.1).bind fun h' => some (none, L, h')
  | _ => none
section V2
variable {k : gK} {C : gOrc} {n pc p1 p2 pB pC : Nat}
theorem gZ_ldcw {ix j : Nat} {own tx : String} (ho : own = k.2.1) (hw : (own, ix, tx, j) ∈ gSr) (hj : j < gTxt.length) (hd : decode k.1 pc = .ok (.ldc_w ix, 3)) : gZ k C n pc (pc + 3) (kS j) := by
  intro Γ ok L h a h' he
  simp only [kS, Option.some.injEq, Prod.mk.injEq] at he
  obtain ⟨rfl, rfl⟩ := he
  refine ⟨gLe.rf, fun ws tys H locs ls rest hS hL hc hm kk => ?_⟩
  obtain ⟨D, adK, adV, A, ⟨p, l, e, R, s, m, args, below, meth, c, Q⟩, b, d⟩ := Γ
  obtain ⟨⟨hx, hb, hml, hown, hts⟩, hA, hfr, hlo, ⟨hN, hZ, hV⟩, hC, hIn⟩ := ok
  subst ho
  exact g_ldcSW hx hb hown (hZ _ hw) hd (kk ws tys H locs _ hS gExt.rf ⟨hj, rfl⟩)
theorem gT_ob2 {ix : Nat} (h1 : Cond.methodLink k.2.1 ix Lib.objectInit ∈ gTw) (h2 : Cond.instanceMethod Lib.objectInit ∈ gTw) (h3 : Cond.code Lib.objectInit ⟨#[0xb1]⟩ 1 none ∈ gTw) (he0 : gR k C 0 pc p1 (lR 0)) (hd : decode k.1 p1 = .ok (.invokespecial ix, 3)) : gT k C pc (p1 + 3) pB pC obS := by
  intro Γ ok f L h ex L' h' he
  simp only [obS, Option.bind_eq_some_iff] at he
  obtain ⟨⟨x, h1⟩, e1, he⟩ := he
  match x, e1, he with
  | some y, e1, he =>
    simp only [Option.some.injEq, Prod.mk.injEq] at he
    obtain ⟨rfl, rfl, rfl⟩ := he
    obtain ⟨g1, K1⟩ := he0 Γ ok L h _ h1 e1
    refine ⟨g1, fun ws tys H locs ls hS hL hm kk => ?_⟩
    refine K1 ws tys H locs ls [] hS hL gCat0 hm fun ws1 tys1 H1 locs1 w1 hS1 hx1 hv1 => ?_
    have kk2 := kk ws1 tys1 H1 locs1 ls hS1 hx1 (hL.ext hx1)
    obtain ⟨D, adK, adV, A, ⟨p, l, e, R, s, m, args, below, meth, c, Q⟩, b, d⟩ := Γ
    obtain ⟨⟨hx, hb, hml, hown, hts⟩, hA, hfr, hlo, -⟩ := ok
    obtain ⟨z, e9, rfl, -⟩ := hv1
    exact W.objInit hx hb hown (hts _ (by assumption)) (hts _ h2) (hts _ h3) rfl (hL.1.trans hml.symm) rfl hd (by omega) (by simp; omega) kk2
theorem gT_puLp {o : gRE} {e0 : gIE} {ix ci kf : Nat} {ins : Instr} {g : Int → Int → Int} (hop : gOl2p ins g) (hr : gFk k.2.1 ix ci kf) (hf : gPk k.2.2.2 k.2.1 ix ci kf .long) (ho : gR k C 0 pc p1 o) (hd1 : decode k.1 p1 = .ok (.dup, 1)) (hd2 : decode k.1 (p1 + 1) = .ok (.getfield ix, 3)) (he0 : gJ k C 3 (p1 + 1 + 3) p2 e0) (hd3 : decode k.1 p2 = .ok (ins, 1)) (hd : decode k.1 (p2 + 1) = .ok (.putfield ix, 3)) : gT k C pc (p2 + 1 + 3) pB pC (puLp ci kf g o e0) := by
  intro Γ ok f L h ex L' h' he
  simp only [puLp, Option.bind_eq_some_iff] at he
  obtain ⟨⟨x, h1⟩, e1, he⟩ := he
  split at he
  rotate_left
  · cases he
  rename_i z hz
  simp only [Option.bind_eq_some_iff] at he
  obtain ⟨⟨y, h2⟩, e2, he⟩ := he
  split at he
  · cases he
  rename_i hne
  simp only [Option.bind_eq_some_iff, Option.some.injEq, Prod.mk.injEq] at he
  obtain ⟨h3, e3, rfl, rfl, rfl⟩ := he
  obtain ⟨g1, K1⟩ := ho Γ ok L h x h1 e1
  obtain ⟨g2, K2⟩ := he0 Γ ok L h1 y h2 e2
  have g3 : h3.1 = h2.1 := by
    obtain ⟨a, fs, -, -, -, rfl⟩ := gPut_spec e3
    rfl
  refine ⟨(g1.tr g2).tr (gLe.of g3), fun ws tys H locs ls hS hL hm kk => ?_⟩
  refine K1 ws tys H locs ls [] hS hL gCat0 (gRm.le (g2.tr (gLe.of g3)) hm) fun ws1 tys1 H1 locs1 w1 hS1 hx1 hv1 => ?_
  obtain ⟨a, fs, rfl, ha, hv⟩ := gFld_spec hz
  obtain ⟨wv, q1, q2⟩ := g_getf (h0 := h1) (rest := [w1]) (ls := ls) ok hS1 hr hd2 ha hv hv1
  have hcat : gCat (wv :: [w1]) ≤ 3 := by rw [gCat_vL q1, gCat_vR hv1]; exact Nat.le_refl 3
  have step := q2 (K2 ws1 tys1 H1 locs1 ls (wv :: [w1]) hS1 (hL.ext hx1) hcat (gRm.le (gLe.of g3) hm) fun ws2 tys2 H2 locs2 w2 hS2 hx2 hv2 => ?_)
  · obtain ⟨D, adK, adV, A, ⟨p, l, e, R, s, m, args, below, meth, c, Q⟩, b, d⟩ := Γ
    obtain ⟨⟨hx, hb, hml, hown, hts⟩, -⟩ := ok
    obtain ⟨y1, e9, rfl, -⟩ := id hv1
    exact lv_dup hx hb hd1 rfl step
  · obtain ⟨iv, rfl, hiv⟩ := q1
    obtain ⟨i2, rfl, hi2⟩ := hv2
    have fin : ∀ i : Int64, i.toInt = g iv.toInt i2.toInt → gW Γ H2 locs2 h2 (fun m => F0 m (p2 + 1) ls (.long i :: [w1])) := fun i hi =>
      g_putf ok hS2 hf (gFits_l _) hd e3 ⟨i, rfl, by rw [hi, hiv, hi2]⟩ (gVr_ext hx2 hv1) fun ws3 H3 locs3 hS3 hx3 => kk ws3 tys2 H3 locs3 ls hS3 (hx1.tr (hx2.tr hx3)) (hL.ext (hx1.tr (hx2.tr hx3)))
    obtain ⟨D, adK, adV, A, ⟨p, l, e, R, s, m, args, below, meth, c, Q⟩, b, d⟩ := Γ
    obtain ⟨⟨hx, hb, hml, hown, hts⟩, -⟩ := ok
    exact hop hx hb hd3 iv i2 (by rw [hi2]; exact hne) fin
end V2
/-- a method of String, called on a constant -/
def gTk (own : String) (ix m cnt : Nat) : Prop := ∃ mi : gMi, gMt[m]? = some mi ∧ gMok mi cnt ∧ mi.1.cls = "java/lang/String" ∧ Cond.instanceMethod mi.1 ∈ gTw ∧ Cond.selects mi.1.cls mi.1 mi.1 ∈ gTw ∧ Cond.methodLink own ix mi.1 ∈ gTw
theorem g_callT {k : gK} {C : gOrc} {Γ : gG} {ws : va_W} {tys : gTs} {h h' : gH} {H : Heap} {locs : List Loc} {pc ix m cnt i : Nat} {ls : Array Slot} {rest vals : List Value} {vs : List gAV} {r : Option gAV} {L : gLo} (hv : gTk k.2.1 ix m cnt) (ok : gOK k C Γ) (hS : gS Γ ws tys h H locs) (hL : gLR Γ k.2.2.1 ws ls L) (hcc : C m (vS i :: vs) h = some (r, h')) (ha : gArgs Γ.2.1 ws vals (vS i :: vs)) (hn : vs.length = cnt) (hc : gCat rest ≤ 8) (hm : gRm Γ h') (hd : decode k.1 pc = .ok (.invokevirtual ix, 3))
    (kk : ∀ (ws' : va_W) (tys' : gTs) (H' : Heap) (locs' : List Loc) (w : Option Value), gS Γ ws' tys' h' H' locs' → gExt ws ws' → gRet Γ.2.1 ws' w r → gW Γ H' locs' h' (fun m => F0 m (pc + 3) ls (w.toList ++ rest))) : gW Γ H locs h (fun m => F0 m pc ls (vals.reverse ++ rest)) := by
  obtain ⟨D, adK, adV, A, ⟨p, l, e, R, s, m0, args, below, meth, c, Q⟩, b, d⟩ := Γ
  obtain ⟨⟨hx, hb, hml, hown, hts⟩, hA, hfr, hlo, hE, hC, hIn⟩ := id ok
  obtain ⟨mi, g0, g1, g2, g3⟩ := hC m _ h r h' hcc
  obtain ⟨mi', f0, f1, f4, f5, f6, f7⟩ := hv
  rw [g0] at f0
  cases f0
  obtain ⟨hlen, hvals⟩ := id ha
  obtain ⟨w0, hw0, hi, rfl⟩ := hvals 0 _ rfl
  match vals, hlen, hw0 with
  | .ref _ :: As, hlen, rfl =>
    obtain ⟨hK, hP, hD, hSS, hR, hb1, hb2⟩ := id hS
    have hgood : GoodIn gTw (wsV k.2.1 ix mi.1.cls mi.1 (Cond.code mi.1 mi.2.1 mi.2.2.1 mi.2.2.2.1 :: gTw)) := by
      intro w hw
      simp only [wsV, List.cons_append, List.nil_append, List.mem_cons] at hw
      rcases hw with rfl | rfl | rfl | rfl | hw
      · exact gTw_good _ f7
      · exact gTw_good _ f5
      · exact gTw_good _ f6
      · exact gTw_good _ f1.2.1
      · exact gTw_cons f1 w (List.mem_cons.mpr hw)
    have hAs : As.length = cnt := by simp at hlen hn; omega
    have hst : (Value.ref (adK i) :: As).reverse ++ rest = As.reverse ++ Value.ref (adK i) :: rest := by simp
    have run := va_runV (l := l) (e := e) (below := below) (meth := meth) (H := H) (locs := locs) (cells := h.1.2.1 - b.1) (slots := h.1.2.2 - b.2) (b := adK i) (As := As) (rest := rest) (g := F0 m0 pc ls ((Value.ref (adK i) :: As).reverse ++ rest)) ⟨hx, hb, hml, hown, hts⟩ (g3 ws tys H.size (Value.ref (adK i) :: As) hR ⟨hlen, hvals⟩) (cwV cnt hts hgood rfl rfl rfl ⟨rfl, f1.2.2.1⟩ ⟨hfr, by have := f1.2.2.2; simp only [gRoom]; omega⟩) ⟨gPc_blind, by rw [f4]; exact hE.2.2.1.recv hi hSS, gPre_of ok hS⟩ rfl hAs hL.1 hst (lv_room hc) hd ⟨by have := hm.1; have := g2.2.1; omega, by have := hm.2; have := g2.2.2; omega⟩
    exact g_call ok hS g2 run kk
theorem gI_callT {k : gK} {C : gOrc} {n pc p1 ix m cnt : Nat} {e0 : gSE} {as : gAE} (hv : gTk k.2.1 ix m cnt) (hn : n ≤ 8) (ha : gAg k C n pc p1 (cnt + 1) (aCS e0 as)) (hd : decode k.1 p1 = .ok (.invokevirtual ix, 3)) : gI k C n pc (p1 + 3) (cI C m (aCS e0 as)) := by
  intro Γ ok L h a h' he
  obtain ⟨vs, h1, e1, e2⟩ := cI_spec L h a h' he
  obtain ⟨g1, hl, K1⟩ := ha Γ ok L h vs h1 e1
  have hvs : ∃ i vs', vs = vS i :: vs' := by
    simp only [aCS, Option.bind_eq_some_iff, Option.some.injEq, Prod.mk.injEq] at e1
    obtain ⟨x, -, y, -, rfl, -⟩ := e1
    exact ⟨_, _, rfl⟩
  obtain ⟨i, vs', rfl⟩ := hvs
  have g2 : gLe h1 h' := by
    obtain ⟨D, adK, adV, A, ⟨p, l, e, R, s, m0, args, below, meth, c, Q⟩, b, d⟩ := Γ
    obtain ⟨-, -, -, -, -, hC, -⟩ := id ok
    obtain ⟨mi, -, -, g2, -⟩ := hC m _ h1 _ h' e2
    exact g2
  refine ⟨g1.tr g2, fun ws tys H locs ls rest hS hL hc hm kk => ?_⟩
  refine K1 ws tys H locs ls rest hS hL hc (gRm.le g2 hm) fun ws1 tys1 H1 locs1 vals hS1 hx1 hv1 => ?_
  refine g_callT hv ok hS1 (hL.ext hx1) e2 hv1 (by simpa using hl) (by omega) hm hd fun ws2 tys2 H2 locs2 w hS2 hx2 hr2 => ?_
  obtain ⟨x, rfl, hx⟩ := hr2
  exact kk ws2 tys2 H2 locs2 x hS2 (hx1.tr hx2) hx
def gDfB : List gAV → List Value → Bool
  | [], [] => true
  | .inl z :: vs, .int i :: ws => z == 0 && i == 0 && gDfB vs ws
  | .inr (.inl z) :: vs, .long i :: ws => z == 0 && i == 0 && gDfB vs ws
  | .inr (.inr (.inl none)) :: vs, .null :: ws => gDfB vs ws
  | _, _ => false
theorem gDf_of : ∀ {fs : List gAV} {gs : List Value} (h : gDfB fs gs = true) (j : Nat) (v : gAV), fs[j]? = some v → ∃ w : Value, gs[j]? = some w ∧ ∀ (adK : Nat → Nat) (ws : va_W), gVr adK ws w v := by
  intro fs
  induction fs with
  | nil => intro gs h j v hj; simp at hj
  | cons f fs ih =>
    intro gs h j v hj
    match f, gs, h with
    | .inl z, .int i :: gs, h =>
      simp only [gDfB, Bool.and_eq_true, beq_iff_eq] at h
      obtain ⟨⟨rfl, rfl⟩, h2⟩ := h
      cases j with
      | zero => simp at hj; subst hj; exact ⟨.int 0, rfl, fun _ _ => ⟨0, rfl, rfl⟩⟩
      | succ j => exact ih h2 j v (by simpa using hj)
    | .inr (.inl z), .long i :: gs, h =>
      simp only [gDfB, Bool.and_eq_true, beq_iff_eq] at h
      obtain ⟨⟨rfl, rfl⟩, h2⟩ := h
      cases j with
      | zero => simp at hj; subst hj; exact ⟨.long 0, rfl, fun _ _ => ⟨0, rfl, rfl⟩⟩
      | succ j => exact ih h2 j v (by simpa using hj)
    | .inr (.inr (.inl none)), .null :: gs, h =>
      cases j with
      | zero => simp at hj; subst hj; exact ⟨.null, rfl, fun _ _ => rfl⟩
      | succ j => exact ih h j v (by simpa using hj)
