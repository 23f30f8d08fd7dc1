/-! CALLS -/
def gNk : Cond → Bool
  | .fieldLinkNest _ _ _ _ _ _ => true
  | .methodLinkNest _ _ _ _ => true
  | _ => false
theorem gNw_all : gNw.all gNk = true := by decide +kernel
theorem gNw_warm {w : Cond} (hw : w ∈ gNw) {s U : State} (hW : s.WarmedH U.vm) (h : va_Nw w s) : va_Nw w U := by
  have h1 := List.all_eq_true.mp gNw_all w hw
  cases w <;> first | exact va_Nw.warmF hW h | exact va_Nw.warmM hW h | (exfalso; exact Bool.noConfusion h1)
theorem gNw_same {w : Cond} (hw : w ∈ gNw) {s U : State} (hW : s.vm = U.vm) (h : va_Nw w s) : va_Nw w U := by
  have h1 := List.all_eq_true.mp gNw_all w hw
  cases w <;> first | exact va_Nw.same rfl hW h | (exfalso; exact Bool.noConfusion h1)
theorem gEv_to {adK adV : Nat → Nat} {A B : Nat → Prop} {s U : State} {H : Heap} {locs : List Loc} (h : gEv gNw gSr adK adV A s s.heap) (hS : va_S A s.heap H locs) (hAB : ∀ q, B q → A q) (hU : U.heap = H) (hW : s.WarmedH U.vm) : gEv gNw gSr adK adV B U U.heap := by
  obtain ⟨h1, h2, h3, h4, h5, q, h6⟩ := h
  have hk : ∀ a : Nat, a < s.heap.size → ¬ A a → H[a]? = s.heap[a]? := fun a ha hn => hS.2.1 a ha hn
  refine ⟨fun w hw => gNw_warm hw hW (h1 w hw), fun q hq => (h2 q hq).warm hW, ?_⟩
  rw [hU]
  exact ⟨((h3.kept hk).moved hW.alike).narrow hAB, fun i => (h4 i).moved hW.alike, ((h5.kept hk).moved hW.alike).narrow hAB, q, ((h6.kept hk).moved hW.alike).narrow hAB⟩
theorem gPc_blind {D : va_G} {adK adV : Nat → Nat} {tys : gTs} {ws : va_W} {sz : Nat} {vals : List Value} : FrameBlind (gPc D adK adV tys ws sz vals) := by
  intro a U g mk q
  obtain ⟨q0, q1, qP, qK, qD, q2, q3, q4, q5, q6, q7, q8⟩ := q
  exact ⟨q0, q1, qP, va_K.moved (u := U) (U := U.calling g mk a) (Vm.Alike.refl U.vm) qK, qD, fun w hw => gNw_same (s := U) hw rfl (q2 w hw), fun w hw => vk_R.same (u := U) rfl (q3 w hw), gVS.moved (u := U) (U := U.calling g mk a) (Vm.Alike.refl U.vm) q4, fun i => va_AO.moved (u := U) (U := U.calling g mk a) (Vm.Alike.refl U.vm) (q5 i), va_Z.moved (u := U) (U := U.calling g mk a) (Vm.Alike.refl U.vm) q6, q7, va_Z.moved (u := U) (U := U.calling g mk a) (Vm.Alike.refl U.vm) q8⟩
/-- a call of which it is known that it runs: its world is the caller's -/
theorem g_call {k : gK} {C : gOrc} {D : va_G} {adK adV : Nat → Nat} {A : Nat → Prop} {p : Program} {l : Launch} {e : Env} {R : Room} {s : State} {m : MethodId} {args : Array Value} {below : List Frame} {meth : Method} {c : Code} {Q : State → Prop} {b : Nat × Nat} {d : Nat} {ws : va_W} {tys : gTs} {h h' : gH} {H : Heap} {locs : List Loc} {pc : Nat} {ls : Array Slot} {rest st0 : List Value} {a : Array Value} {r : Option gAV}
    (ok : gOK k C (D, adK, adV, A, (p, l, e, R, s, m, args, below, meth, c, Q), b, d)) (hS : gS (D, adK, adV, A, (p, l, e, R, s, m, args, below, meth, c, Q), b, d) ws tys h H locs) (hle : gLe h h')
    (hr : va_Run p l e R s m args below meth c H locs (h.1.2.1 - b.1) (h.1.2.2 - b.2) (h'.1.2.1 - h.1.2.1) (h'.1.2.2 - h.1.2.2) (F0 m pc ls st0) rest (gQc D adK ws H.size r h' a) (va_A ws H.size))
    (kk : ∀ (ws' : va_W) (tys' : gTs) (H' : Heap) (locs' : List Loc) (w : Option Value), gS (D, adK, adV, A, (p, l, e, R, s, m, args, below, meth, c, Q), b, d) ws' tys' h' H' locs' → gExt ws ws' → gRet adK ws' w r → W p l e R s m args below meth c H' locs' (h'.1.2.1 - b.1) (h'.1.2.2 - b.2) Q (F0 m (pc + 3) ls (w.toList ++ rest))) :
    W p l e R s m args below meth c H locs (h.1.2.1 - b.1) (h.1.2.2 - b.2) Q (F0 m pc ls st0) := by
  intro T hT X
  obtain ⟨v, st₀, t, T', L, h0, X', hL, e1, e2, ⟨⟨w, ws', tys', hv, hret, hP1, hK1, hD1, hR1, hx1⟩, hz, hk⟩, st⟩ := hr T hT X
  cases hv
  obtain ⟨hK, hP, hD, hSS, hR, hb1, hb2⟩ := hS
  obtain ⟨-, hA, -⟩ := ok
  have hsub : ∀ q, va_A ws H.size q → A q := by
    intro q hq
    rcases hq with ⟨j, e0, hj⟩ | hq
    · exact hD.2 j _ hj
    · exact hA q (Nat.le_trans hSS.1 hq)
  rw [h0] at hz hk
  obtain ⟨q1, q2, q3⟩ := hle
  have ec : h.1.2.1 - b.1 + (h'.1.2.1 - h.1.2.1) = h'.1.2.1 - b.1 := by omega
  have es : h.1.2.2 - b.2 + (h'.1.2.2 - h.1.2.2) = h'.1.2.2 - b.2 := by omega
  rw [ec, es] at X'
  have hSn : va_S A s.heap T'.heap (locs ++ L) := ⟨Nat.le_trans hSS.1 (by rw [e1]; exact hz), fun q h1 h2 => by rw [e1, hk q (Nat.lt_of_lt_of_le h1 hSS.1) (fun z => h2 (hsub q z))]; exact hSS.2.1 q h1 h2, fun q hq => by
      rcases List.mem_append.mp hq with h | h
      · exact hSS.2.2 q h
      · exact hsub _ (hL q h)⟩
  have hal : s.vm.Alike t.vm := by rw [← e2]; exact X'.warmed.alike
  obtain ⟨t2, a1, b1⟩ := kk ws' tys' T'.heap (locs ++ L) v ⟨va_K.moved hal.symm hK1, by rw [e1]; exact hP1, hD1.weaken (fun _ q _ hq => hsub q.1 hq), hSn, hR1, by omega, by omega⟩ hx1 hret T' rfl X'
  exact ⟨t2, st t2 a1, b1⟩
/-- code from pc to pc' leaves the arguments on the stack -/
def gAg (k : gK) (C : gOrc) (n pc pc' cnt : Nat) (as : gAE) : Prop := ∀ Γ : gG, gOK k C Γ → ∀ (L : gLo) (h : gH) (vs : List gAV) (h' : gH), as L h = some (vs, h') → gLe h h' ∧ vs.length = cnt ∧ ∀ (ws : va_W) (tys : gTs) (H : Heap) (locs : List Loc) (ls : Array Slot) (rest : List Value), gS Γ ws tys h H locs → gLR Γ k.2.2.1 ws ls L → gCat rest ≤ n → gRm Γ h' →
  (∀ (ws' : va_W) (tys' : gTs) (H' : Heap) (locs' : List Loc) (vals : List Value), gS Γ ws' tys' h' H' locs' → gExt ws ws' → gArgs Γ.2.1 ws' vals vs → gW Γ H' locs' h' (fun m => F0 m pc' ls (vals.reverse ++ rest))) → gW Γ H locs h (fun m => F0 m pc ls rest)
theorem gArgs_nil {adK : Nat → Nat} {ws : va_W} : gArgs adK ws [] [] := ⟨rfl, fun k v h => by simp at h⟩
theorem gArgs_cons {adK : Nat → Nat} {ws : va_W} {w : Value} {vals : List Value} {v : gAV} {vs : List gAV} (h : gVr adK ws w v) (h2 : gArgs adK ws vals vs) : gArgs adK ws (w :: vals) (v :: vs) := by
  refine ⟨by simp [h2.1], fun k u hu => ?_⟩
  cases k with
  | zero => simp at hu; subst hu; exact ⟨w, by simp, h⟩
  | succ k => simp at hu; obtain ⟨w', h3, h4⟩ := h2.2 k u hu; exact ⟨w', by simpa using h3, h4⟩
theorem gAg_nil {k : gK} {C : gOrc} {n pc : Nat} : gAg k C n pc pc 0 a0 := by
  intro Γ ok L h vs h' he
  simp only [a0, Option.some.injEq, Prod.mk.injEq] at he
  obtain ⟨rfl, rfl⟩ := he
  exact ⟨gLe.rf, rfl, fun ws tys H locs ls rest hS hL hc hm kk => kk ws tys H locs [] hS gExt.rf gArgs_nil⟩
/-- one more argument ahead of others -/
theorem gAg_cons {α : Type} {inj : α → gAV} {k : gK} {C : gOrc} {n pc p1 p2 cnt m : Nat} {e : gLo → gH → Option (α × gH)} {r : gAE} (hcat : ∀ {adK : Nat → Nat} {ws : va_W} {w : Value} {z : α} {rest : List Value}, gVr adK ws w (inj z) → gCat (w :: rest) = gCat rest + m) (he : gEvl inj k C n pc p1 e) (hr : gAg k C (n + m) p1 p2 cnt r) : gAg k C n pc p2 (cnt + 1) (fun L h => (e L h).bind fun x => (r L x.2).bind fun y => some (inj x.1 :: y.1, y.2)) := by
  intro Γ ok L h vs h' hh
  simp only [Option.bind_eq_some_iff, Option.some.injEq, Prod.mk.injEq] at hh
  obtain ⟨⟨x, h1⟩, e1, ⟨ys, h2⟩, e2, rfl, rfl⟩ := hh
  obtain ⟨g1, K1⟩ := he Γ ok L h x h1 e1
  obtain ⟨g2, hl, K2⟩ := hr Γ ok L h1 ys h2 e2
  refine ⟨g1.tr g2, by simp [hl], fun ws tys H locs ls rest hS hL hc hm kk => ?_⟩
  refine K1 ws tys H locs ls rest hS hL hc (gRm.le g2 hm) fun ws1 tys1 H1 locs1 w1 hS1 hx1 hv1 => ?_
  refine K2 ws1 tys1 H1 locs1 ls (w1 :: rest) hS1 (hL.ext hx1) (by rw [hcat hv1]; omega) hm fun ws2 tys2 H2 locs2 vals hS2 hx2 hv2 => ?_
  have := kk ws2 tys2 H2 locs2 (w1 :: vals) hS2 (hx1.tr hx2) (gArgs_cons (gVr_ext hx2 hv1) hv2)
  simpa using this
theorem gCat_vB {adK : Nat → Nat} {ws : va_W} {w : Value} {z : Bool} {r : List Value} (h : gVr adK ws w (vB z)) : gCat (w :: r) = gCat r + 1 := gCat_vI h
section E5
variable {k : gK} {C : gOrc} {n pc p1 p2 cnt : Nat} {r : gAE}
theorem gAg_I {e : gIE} (he : gI k C n pc p1 e) (hr : gAg k C (n + 1) p1 p2 cnt r) : gAg k C n pc p2 (cnt + 1) (aCI e r) := gAg_cons gCat_vI he hr
theorem gAg_L {e : gIE} (he : gJ k C n pc p1 e) (hr : gAg k C (n + 2) p1 p2 cnt r) : gAg k C n pc p2 (cnt + 1) (aCL e r) := gAg_cons gCat_vL he hr
theorem gAg_R {e : gRE} (he : gR k C n pc p1 e) (hr : gAg k C (n + 1) p1 p2 cnt r) : gAg k C n pc p2 (cnt + 1) (aCR e r) := gAg_cons gCat_vR he hr
theorem gAg_S {e : gSE} (he : gZ k C n pc p1 e) (hr : gAg k C (n + 1) p1 p2 cnt r) : gAg k C n pc p2 (cnt + 1) (aCS e r) := gAg_cons gCat_vS he hr
theorem gAg_B {e : gCE} (he : gB k C n pc p1 e) (hr : gAg k C (n + 1) p1 p2 cnt r) : gAg k C n pc p2 (cnt + 1) (aCB e r) := gAg_cons gCat_vB he hr
end E5
/-- what a method's number stands for: its words are in the tables; cnt parameters -/
def gMok (mi : gMi) (cnt : Nat) : Prop := Cond.code mi.1 mi.2.1 mi.2.2.1 mi.2.2.2.1 ∈ gTw ∧ Cond.initialized mi.1.cls ∈ gTw ∧ (mi.1.cls ≠ "java/lang/invoke/MethodHandle" ∧ mi.1.cls ≠ "java/lang/invoke/VarHandle" ∧ (parseMethodDescriptor mi.1.desc).map (fun d => d.parameters.length) = some cnt) ∧ mi.2.2.1 ≤ 40
/-- an instance method, called by invokevirtual -/
def gVk (own : String) (ix m cnt : Nat) : Prop := ∃ (mi : gMi) (ci : Nat) (q : vw_C), gMt[m]? = some mi ∧ gMok mi cnt ∧ mi.2.2.2.2 = some ci ∧ vwCl[ci]? = some q ∧ mi.1.cls = q.1 ∧ Cond.instanceMethod mi.1 ∈ gTw ∧ Cond.selects mi.1.cls mi.1 mi.1 ∈ gTw ∧ Cond.methodLink own ix mi.1 ∈ gTw
def gSk (own : String) (ix m cnt : Nat) : Prop := ∃ mi : gMi, gMt[m]? = some mi ∧ gMok mi cnt ∧ Cond.static mi.1 ∈ gTw ∧ (Cond.methodLink own ix mi.1 ∈ gTw ∨ ∃ host : String, Cond.methodLinkNest own ix mi.1 host ∈ gNw)
def gNk1 (own : String) (ix m cnt : Nat) : Prop := ∃ mi : gMi, gMt[m]? = some mi ∧ gMok mi cnt ∧ mi.2.2.2.1 = none ∧ mi.1.name = "<init>" ∧ Cond.instanceMethod mi.1 ∈ gTw ∧ (Cond.methodLink own ix mi.1 ∈ gTw ∨ ∃ host : String, Cond.methodLinkNest own ix mi.1 host ∈ gNw)
theorem gTw_cons {mi : gMi} {cnt : Nat} (h : gMok mi cnt) : GoodIn gTw (Cond.code mi.1 mi.2.1 mi.2.2.1 mi.2.2.2.1 :: gTw) := by
  intro w hw
  rcases List.mem_cons.mp hw with rfl | hw
  · exact gTw_good _ h.1
  · exact gTw_good _ hw
theorem gPre_of {k : gK} {C : gOrc} {D : va_G} {adK adV : Nat → Nat} {A : Nat → Prop} {p : Program} {l : Launch} {e : Env} {R : Room} {s : State} {m : MethodId} {args : Array Value} {below : List Frame} {meth : Method} {c : Code} {Q : State → Prop} {b : Nat × Nat} {d : Nat} {ws : va_W} {tys : gTs} {h : gH} {H : Heap} {locs : List Loc} {vals : List Value}
    (ok : gOK k C (D, adK, adV, A, (p, l, e, R, s, m, args, below, meth, c, Q), b, d)) (hS : gS (D, adK, adV, A, (p, l, e, R, s, m, args, below, meth, c, Q), b, d) ws tys h H locs) : ∀ U : State, U.heap = H → s.WarmedH U.vm → gPc D adK adV tys ws H.size vals vals.toArray U := by
  intro U hU hW
  obtain ⟨-, hA, -, -, hE, -⟩ := ok
  obtain ⟨hK, hP, hD, hSS, hR, hb1, hb2⟩ := hS
  refine ⟨rfl, by rw [hU], by rw [hU]; exact hP, va_K.moved hW.alike hK, hD.weaken (fun _ _ _ _ => trivial), gEv_to hE hSS ?_ hU hW⟩
  intro q hq
  rcases hq with ⟨j, e0, hj⟩ | hq
  · exact hD.2 j _ hj
  · exact hA q (Nat.le_trans hSS.1 hq)
theorem g_callV {k : gK} {C : gOrc} {Γ : gG} {ws : va_W} {tys : gTs} {h h' : gH} {H : Heap} {locs : List Loc} {pc ix m cnt : Nat} {ls : Array Slot} {rest vals : List Value} {vs : List gAV} {r : Option gAV} {L : gLo} (hv : gVk k.2.1 ix m cnt) (ok : gOK k C Γ) (hS : gS Γ ws tys h H locs) (hL : gLR Γ k.2.2.1 ws ls L) (hcc : C m vs h = some (r, h')) (ha : gArgs Γ.2.1 ws vals vs) (hn : vs.length = cnt + 1) (hc : gCat rest ≤ 8) (hm : gRm Γ h') (hd : decode k.1 pc = .ok (.invokevirtual ix, 3))
    (kk : ∀ (ws' : va_W) (tys' : gTs) (H' : Heap) (locs' : List Loc) (w : Option Value), gS Γ ws' tys' h' H' locs' → gExt ws ws' → gRet Γ.2.1 ws' w r → gW Γ H' locs' h' (fun m => F0 m (pc + 3) ls (w.toList ++ rest))) : gW Γ H locs h (fun m => F0 m pc ls (vals.reverse ++ rest)) := by
  obtain ⟨D, adK, adV, A, ⟨p, l, e, R, s, m0, args, below, meth, c, Q⟩, b, d⟩ := Γ
  obtain ⟨⟨hx, hb, hml, hown, hts⟩, hA, hfr, hlo, hE, hC, hIn⟩ := id ok
  obtain ⟨mi, g0, g1, g2, g3⟩ := hC m vs h r h' hcc
  obtain ⟨mi', ci, q, f0, f1, f2, f3, f4, f5, f6, f7⟩ := hv
  rw [g0] at f0
  cases f0
  rw [f2] at g1
  obtain ⟨kk0, fs, as, rfl, hobj⟩ := g1
  obtain ⟨hlen, hvals⟩ := ha
  obtain ⟨w0, hw0, x, e0, rfl, hx0⟩ := hvals 0 _ rfl
  match vals, hlen, hw0 with
  | .ref _ :: As, hlen, rfl =>
    obtain ⟨hK, hP, hD, hSS, hR, hb1, hb2⟩ := id hS
    obtain ⟨x2, gs, hobj1, -, -⟩ := gHR_obj hR hobj
    rw [hobj1] at hx0
    cases hx0
    have hgood : GoodIn gTw (wsV k.2.1 ix mi.1.cls mi.1 (Cond.code mi.1 mi.2.1 mi.2.2.1 mi.2.2.2.1 :: gTw)) := by
      intro w hw
      simp only [wsV, List.cons_append, List.nil_append, List.mem_cons] at hw
      rcases hw with rfl | rfl | rfl | rfl | hw
      · exact gTw_good _ f7
      · exact gTw_good _ f5
      · exact gTw_good _ f6
      · exact gTw_good _ f1.2.1
      · exact gTw_cons f1 w (List.mem_cons.mpr hw)
    have hAs : As.length = cnt := by simp at hlen hn; omega
    have hst : (Value.ref x :: As).reverse ++ rest = As.reverse ++ Value.ref x :: rest := by simp
    have run := va_runV (l := l) (e := e) (below := below) (meth := meth) (H := H) (locs := locs) (cells := h.1.2.1 - b.1) (slots := h.1.2.2 - b.2) (b := x) (As := As) (rest := rest) (g := F0 m0 pc ls ((Value.ref x :: As).reverse ++ rest)) ⟨hx, hb, hml, hown, hts⟩ (g3 ws tys H.size (Value.ref x :: As) hR ⟨hlen, hvals⟩) (cwV cnt hts hgood rfl rfl rfl ⟨rfl, f1.2.2.1⟩ ⟨hfr, by have := f1.2.2.2; simp only [gRoom]; omega⟩) ⟨gPc_blind, by rw [f4]; exact va_recv hK hP f3 hobj1, gPre_of ok hS⟩ rfl hAs hL.1 hst (lv_room hc) hd ⟨by have := hm.1; have := g2.2.1; omega, by have := hm.2; have := g2.2.2; omega⟩
    exact g_call ok hS g2 run kk
theorem g_callS {k : gK} {C : gOrc} {Γ : gG} {ws : va_W} {tys : gTs} {h h' : gH} {H : Heap} {locs : List Loc} {pc ix m cnt : Nat} {ls : Array Slot} {rest vals : List Value} {vs : List gAV} {r : Option gAV} {L : gLo} (hv : gSk k.2.1 ix m cnt) (ok : gOK k C Γ) (hS : gS Γ ws tys h H locs) (hL : gLR Γ k.2.2.1 ws ls L) (hcc : C m vs h = some (r, h')) (ha : gArgs Γ.2.1 ws vals vs) (hn : vs.length = cnt) (hc : gCat rest ≤ 8) (hm : gRm Γ h') (hd : decode k.1 pc = .ok (.invokestatic ix, 3))
    (kk : ∀ (ws' : va_W) (tys' : gTs) (H' : Heap) (locs' : List Loc) (w : Option Value), gS Γ ws' tys' h' H' locs' → gExt ws ws' → gRet Γ.2.1 ws' w r → gW Γ H' locs' h' (fun m => F0 m (pc + 3) ls (w.toList ++ rest))) : gW Γ H locs h (fun m => F0 m pc ls (vals.reverse ++ rest)) := by
  obtain ⟨D, adK, adV, A, ⟨p, l, e, R, s, m0, args, below, meth, c, Q⟩, b, d⟩ := Γ
  obtain ⟨⟨hx, hb, hml, hown, hts⟩, hA, hfr, hlo, hE, hC, hIn⟩ := id ok
  obtain ⟨mi, g0, g1, g2, g3⟩ := hC m vs h r h' hcc
  obtain ⟨mi', f0, f1, f5, f7⟩ := hv
  rw [g0] at f0
  cases f0
  obtain ⟨hK, hP, hD, hSS, hR, hb1, hb2⟩ := id hS
  have hAs : vals.length = cnt := by rw [ha.1]; exact hn
  have hroom : d + 1 ≤ R.frames ∧ 8 + (mi.2.2.1 + 11) + (gRoom d (h'.1.2.1 - h.1.2.1) (h'.1.2.2 - h.1.2.2)).locals ≤ R.locals := ⟨hfr, by have := f1.2.2.2; simp only [gRoom]; omega⟩
  have hfit : (h.1.2.1 - b.1) + (h'.1.2.1 - h.1.2.1) ≤ R.cells ∧ (h.1.2.2 - b.2) + (h'.1.2.2 - h.1.2.2) ≤ R.slots := ⟨by have := hm.1; have := g2.2.1; omega, by have := hm.2; have := g2.2.2; omega⟩
  rcases f7 with f7 | ⟨host, f7⟩
  · have hgood : GoodIn gTw (va_wsS k.2.1 ix mi.1 (Cond.code mi.1 mi.2.1 mi.2.2.1 mi.2.2.2.1 :: gTw)) := by
      intro w hw
      simp only [va_wsS, List.cons_append, List.nil_append, List.mem_cons] at hw
      rcases hw with rfl | rfl | rfl | hw
      · exact gTw_good _ f7
      · exact gTw_good _ f5
      · exact gTw_good _ f1.2.1
      · exact gTw_cons f1 w (List.mem_cons.mpr hw)
    have run := va_runS (l := l) (e := e) (below := below) (meth := meth) (H := H) (locs := locs) (cells := h.1.2.1 - b.1) (slots := h.1.2.2 - b.2) (As := vals) (rest := rest) (g := F0 m0 pc ls (vals.reverse ++ rest)) ⟨hx, hb, hml, hown, hts⟩ (g3 ws tys H.size vals hR ha) (va_cwS cnt hts hgood rfl rfl rfl f1.2.2.1 hroom) ⟨gPc_blind, gPre_of ok hS⟩ rfl hAs hL.1 rfl (lv_room hc) hd hfit
    exact g_call ok hS g2 run kk
  · have run := va_runSN (l := l) (e := e) (below := below) (meth := meth) (H := H) (locs := locs) (cells := h.1.2.1 - b.1) (slots := h.1.2.2 - b.2) (As := vals) (rest := rest) (g := F0 m0 pc ls (vals.reverse ++ rest)) ⟨hx, hb, hml, hown, hts⟩ (g3 ws tys H.size vals hR ha) ⟨va_cnB cnt hts (gTw_cons f1) rfl rfl rfl (hE.1 _ f7) (hts _ f1.2.1) f1.2.2.1 hroom, hts _ f5, trivial⟩ ⟨gPc_blind, gPre_of ok hS⟩ rfl hAs hL.1 rfl (lv_room hc) hd hfit
    exact g_call ok hS g2 run kk
/-- a constructor, on an object that stands below its arguments -/
theorem g_callI {k : gK} {C : gOrc} {Γ : gG} {ws : va_W} {tys : gTs} {h h' : gH} {H : Heap} {locs : List Loc} {pc ix m cnt : Nat} {ls : Array Slot} {rest vals : List Value} {vs : List gAV} {r : Option gAV} {L : gLo} {o : Nat} (hv : gNk1 k.2.1 ix m cnt) (ok : gOK k C Γ) (hS : gS Γ ws tys h H locs) (hL : gLR Γ k.2.2.1 ws ls L) (hcc : C m (vR (some o) :: vs) h = some (r, h')) (ha : gArgs Γ.2.1 ws vals (vR (some o) :: vs)) (hn : vs.length = cnt) (hc : gCat rest ≤ 8) (hm : gRm Γ h') (hd : decode k.1 pc = .ok (.invokespecial ix, 3))
    (kk : ∀ (ws' : va_W) (tys' : gTs) (H' : Heap) (locs' : List Loc) (w : Option Value), gS Γ ws' tys' h' H' locs' → gExt ws ws' → gRet Γ.2.1 ws' w r → gW Γ H' locs' h' (fun m => F0 m (pc + 3) ls (w.toList ++ rest))) : gW Γ H locs h (fun m => F0 m pc ls (vals.reverse ++ rest)) := by
  obtain ⟨D, adK, adV, A, ⟨p, l, e, R, s, m0, args, below, meth, c, Q⟩, b, d⟩ := Γ
  obtain ⟨⟨hx, hb, hml, hown, hts⟩, hA, hfr, hlo, hE, hC, hIn⟩ := id ok
  obtain ⟨mi, g0, g1, g2, g3⟩ := hC m _ h r h' hcc
  obtain ⟨mi', f0, f1, f2, f3, f5, f7⟩ := hv
  rw [g0] at f0
  cases f0
  obtain ⟨hlen, hvals⟩ := id ha
  obtain ⟨w0, hw0, x, e0, rfl, hx0⟩ := hvals 0 _ rfl
  match vals, hlen, hw0 with
  | .ref _ :: As, hlen, rfl =>
    obtain ⟨hK, hP, hD, hSS, hR, hb1, hb2⟩ := id hS
    have hAs : As.length = cnt := by simp at hlen hn; omega
    have hst : (Value.ref x :: As).reverse ++ rest = As.reverse ++ Value.ref x :: rest := by simp
    have hroom : d + 1 ≤ R.frames ∧ 8 + (mi.2.2.1 + 11) + (gRoom d (h'.1.2.1 - h.1.2.1) (h'.1.2.2 - h.1.2.2)).locals ≤ R.locals := ⟨hfr, by have := f1.2.2.2; simp only [gRoom]; omega⟩
    have hfit : (h.1.2.1 - b.1) + (h'.1.2.1 - h.1.2.1) ≤ R.cells ∧ (h.1.2.2 - b.2) + (h'.1.2.2 - h.1.2.2) ≤ R.slots := ⟨by have := hm.1; have := g2.2.1; omega, by have := hm.2; have := g2.2.2; omega⟩
    have hM := g3 ws tys H.size (Value.ref x :: As) hR ha
    rw [f2] at hM
    have hgood := gTw_cons f1
    rw [f2] at hgood
    rcases f7 with f7 | ⟨host, f7⟩
    · have run := va_runI (l := l) (e := e) (below := below) (meth := meth) (H := H) (locs := locs) (cells := h.1.2.1 - b.1) (slots := h.1.2.2 - b.2) (b := x) (As := As) (rest := rest) (g := F0 m0 pc ls ((Value.ref x :: As).reverse ++ rest)) ⟨hx, hb, hml, hown, hts⟩ hM (cwI cnt hts hgood rfl rfl rfl (hts _ f1.2.1) (hts _ f7) (hts _ f5) f3 f1.2.2.1 hroom) ⟨gPc_blind, gPre_of ok hS⟩ rfl hAs hL.1 hst (lv_room hc) hd hfit
      exact g_call ok hS g2 run kk
    · have run := va_runIN (l := l) (e := e) (below := below) (meth := meth) (H := H) (locs := locs) (cells := h.1.2.1 - b.1) (slots := h.1.2.2 - b.2) (b := x) (As := As) (rest := rest) (g := F0 m0 pc ls ((Value.ref x :: As).reverse ++ rest)) ⟨hx, hb, hml, hown, hts⟩ hM ⟨va_cnB cnt hts hgood rfl rfl rfl (hE.1 _ f7) (hts _ f1.2.1) f1.2.2.1 hroom, f3, hts _ f5⟩ ⟨gPc_blind, gPre_of ok hS⟩ rfl hAs hL.1 hst (lv_room hc) hd hfit
      exact g_call ok hS g2 run kk
