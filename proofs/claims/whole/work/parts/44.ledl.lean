/-! THE LAW'S OWN LED, which catches -/
theorem gHR_bump {adK : Nat → Nat} {tys : gTs} {ws : va_W} {h : gH} (H : gHR adK tys ws h) : gHR adK tys ws (gBump h) := H
/-- the law's own led: 0 and the answer in its place, or 1 -/
def gLed (C : gOrc) (n : Nat) (x o : Nat) (p : Int) (h : gH) : Option (Int × gH) := match bX11_led C n (gEnt 4 [vR (some x), vI p]) h with
  | some (some (3, some (.inl v)), _, h') => if h.1.1 ≤ h'.1.1 ∧ h.1.2.1 ≤ h'.1.2.1 ∧ h.1.2.2 ≤ h'.1.2.2 then (gEs 2 v (gBump h') (some o) 0).bind fun h3 => some (0, h3) else none
  | some (none, _, h') => if h.1.1 ≤ h'.1.1 ∧ h.1.2.1 ≤ h'.1.2.1 ∧ h.1.2.2 ≤ h'.1.2.2 then some (1, gBump h') else none
  | _ => none
theorem gLed_spec {C : gOrc} {n x o : Nat} {p0 : Int} {h h3 : gH} {r : Int} (hrun : gLed C n x o p0 h = some (r, h3)) : ∃ (ex : gEx) (L' : gLo) (h' : gH), bX11_led C n (gEnt 4 [vR (some x), vI p0]) h = some (ex, L', h') ∧ gLe h h' ∧ (ex = none ∨ ∃ v : Int, ex = some (3, some (vI v))) ∧ ((ex = none ∧ r = 1 ∧ h3 = gBump h') ∨ ∃ v : Int, ex = some (3, some (vI v)) ∧ r = 0 ∧ gEs 2 v (gBump h') (some o) 0 = some h3) := by
  unfold gLed at hrun
  split at hrun
  · rename_i v L' h' hr
    split at hrun
    rotate_left
    · cases hrun
    rename_i hle
    simp only [Option.bind_eq_some_iff, Option.some.injEq, Prod.mk.injEq] at hrun
    obtain ⟨h4, e4, rfl, rfl⟩ := hrun
    exact ⟨_, L', h', hr, hle, Or.inr ⟨v, rfl⟩, Or.inr ⟨v, rfl, rfl, e4⟩⟩
  · rename_i L' h' hr
    split at hrun
    rotate_left
    · cases hrun
    rename_i hle
    cases hrun
    exact ⟨_, L', h', hr, hle, Or.inl rfl, Or.inl ⟨rfl, rfl, rfl⟩⟩
  · cases hrun
theorem gLed_le {C : gOrc} {n x o : Nat} {p0 : Int} {h h3 : gH} {r : Int} (hrun : gLed C n x o p0 h = some (r, h3)) : gLe h h3 := by
  obtain ⟨ex, L', h', -, hle, -, hc⟩ := gLed_spec hrun
  rcases hc with ⟨-, -, rfl⟩ | ⟨v, -, -, e4⟩
  · exact hle.tr gLe_bump
  · exact hle.tr (gLe_bump.tr (gLe.of (gEs_fst e4)))
set_option maxRecDepth 100000 in
theorem gMet_led {l : Launch} (hl : l.stackTraces = false) {D : va_G} {adK adV : Nat → Nat} {d : Nat} {C : gOrc} (hC : gOrcOK l D adK adV d C) (hd : 8 ≤ d) {n x o : Nat} {p0 : Int} {h h3 : gH} {r : Int} (hrun : gLed C n x o p0 h = some (r, h3)) (hrc : ∃ fs, h.2 x = some (oO 11 fs)) (ws : va_W) (tys : gTs) (sz : Nat) (vals : List Value) (hR : gHR adK tys ws h) (hA0 : gArgs adK ws vals [vR (some x), vI p0, vR (some o)]) :
    Met l yL_led (Cond.codeWith yL_led cL_led 4 (some (FieldType.int)) [(0, 9, 12, 13)] :: gTw) (gRoom (d + 2) (h3.1.2.1 - h.1.2.1) (h3.1.2.2 - h.1.2.2)) (lPc D adK adV tys ws sz vals) (gQc D adK ws sz (some (vI r)) h3) (h3.1.2.1 - h.1.2.1) (h3.1.2.2 - h.1.2.2) (va_A ws sz) := by
  -- the callee's run
  obtain ⟨ex, L', h', hbr, hle', hex, hcase⟩ := gLed_spec hrun
  have hcnt : h3.1 = (gBump h').1 := by
    rcases hcase with ⟨-, -, rfl⟩ | ⟨v, -, -, e4⟩
    · rfl
    · exact gEs_fst e4
  refine va_MetW (cc := cL_led) (maxL := 4) (ret := some .int) (hh := [(0, 9, 12, 13)]) (by decide) rfl ?_
  intro p e s m args below meth c s₁ B hml hv
  obtain ⟨⟨rfl, hsz, hP, hK, hD0, hE⟩, hJ⟩ := hv
  have hx := B.exec
  have hb := B.bytes
  have hr := B.returns
  have hts0 := atoms_spec (ws := Cond.codeWith yL_led cL_led 4 (some (FieldType.int)) [(0, 9, 12, 13)] :: gTw) B.pre
  have hts : ∀ w ∈ gTw, w.before vals.toArray s = true := fun w hw => hts0 w (List.mem_cons_of_mem _ hw)
  have htab := vx_table (x := yL_led) B (hts0 _ List.mem_cons_self)
  have hown : s.vm.findClass RL = some m.cls := findClass_of_methodNamed B.named
  have hlocks := B.notSynchronized
  subst hsz
  have hD := hD0.self (sz := s.heap.size)
  have hA : ∀ q : Nat, s.heap.size ≤ q → va_A ws s.heap.size q := fun q h => Or.inr h
  have hS : va_S (va_A ws s.heap.size) s.heap s.heap [] := va_S.rf
  -- its arguments
  obtain ⟨hlen, hvals⟩ := id hA0
  obtain ⟨w0, hw0, x', e0, rfl, hx0⟩ := hvals 0 _ rfl
  obtain ⟨w1, hw1, i1, rfl, hi1⟩ := hvals 1 _ rfl
  obtain ⟨w2, hw2, o', e2, rfl, hx2⟩ := hvals 2 _ rfl
  match vals, hlen, hw0, hw1, hw2 with
  | [.ref _, .int _, .ref _], hlen, rfl, rfl, rfl =>
    obtain ⟨fs, hobj⟩ := hrc
    obtain ⟨x2, gs, hobj1, -, -⟩ := gHR_obj hR hobj
    rw [hobj1] at hx0
    cases hx0
    have hlv := lv_entry ([.ref x', .int i1, .ref o']) (n := 4) (Nat.le_of_ble_eq_true rfl)
    rw [lg_entry_eq]
    generalize (lg_sl ([Value.ref x', .int i1, .ref o']) ++ List.replicate (4 - (lg_sl ([Value.ref x', .int i1, .ref o'])).length) Slot.unset).toArray = ls at hlv ⊢
    have hlv : lv_has ls 4 [(0, .ref x'), (1, .int i1), (2, .ref o')] := hlv
    refine lv_aload_n hx hb (by decide +kernel : decode cL_led 0 = .ok (.aload_n 2, 1)) rfl (lv_at hlv 2 rfl) ?_
    refine lv_iconst (v := 0) hx hb (by decide +kernel : decode cL_led 1 = .ok (.iconst 0, 1)) (by decide) ?_
    refine lv_aload_n hx hb (by decide +kernel : decode cL_led 2 = .ok (.aload_n 0, 1)) rfl (lv_at hlv 0 rfl) ?_
    refine lv_iload_n hx hb (by decide +kernel : decode cL_led 3 = .ok (.iload_n 1, 1)) rfl (lv_at hlv 1 rfl) ?_
    refine W.eq (g2 := F0 m 4 ls [.int i1, .ref x', .int 0, .ref o']) rfl ?_
    have hM := led_met hl hC hd (Nat.le_of_ble_eq_true rfl) hbr hex ws tys s.heap.size [.ref x', .int i1] hR (gArgs_cons ⟨x', _, rfl, hobj1⟩ (gArgs_cons ⟨i1, rfl, hi1⟩ gArgs_nil))
    have hc1 : h3.1.2.1 = h'.1.2.1 + 1 := by rw [hcnt]; rfl
    have hc2 : h3.1.2.2 = h'.1.2.2 + 6 := by rw [hcnt]; rfl
    have ok0 : gOK (cL_led, RL, 4, false) C (D, adK, adV, va_A ws s.heap.size, (p, l, e, gRoom (d + 2) (h3.1.2.1 - h.1.2.1) (h3.1.2.2 - h.1.2.2), s, m, [Value.ref x', .int i1, .ref o'].toArray, below, meth, c, MQ below (gQc D adK ws s.heap.size (some (vI r)) h3) [Value.ref x', .int i1, .ref o'].toArray s (h3.1.2.1 - h.1.2.1) (h3.1.2.2 - h.1.2.2) (va_A ws s.heap.size)), (h.1.2.1, h.1.2.2), d) :=
      ⟨⟨hx, hb, hml, hown, hts⟩, hA, by simp only [gRoom]; omega, by simp only [gRoom]; omega, hE, hC, fun hi => by cases hi⟩
    have hcnt1 : h'.1.2.1 - h.1.2.1 + 1 = h3.1.2.1 - h.1.2.1 := by have := hle'.2.1; omega
    have hcnt2 : h'.1.2.2 - h.1.2.2 + 6 = h3.1.2.2 - h.1.2.2 := by have := hle'.2.2; omega
    rw [hcnt1, hcnt2] at hM
    have hgood : GoodIn gTw (wsV RL 7 yX11_led.cls yX11_led (Cond.code yX11_led cX11_led 4 (some (FieldType.int)) :: gTw)) := jGoodV lx_m7 lx_i lx_s lx_nB lx_code
    have run := vx_runV (R := gRoom (d + 2) (h3.1.2.1 - h.1.2.1) (h3.1.2.2 - h.1.2.2)) (l := l) (e := e) (below := below) (meth := meth) (H := s.heap) (locs := []) (cells := 0) (slots := 0) (b := x') (As := [.int i1]) (rest := [.int 0, .ref o']) (g := F0 m 4 ls [.int i1, .ref x', .int 0, .ref o']) ⟨hx, hb, hml, hown, hts⟩ hM (cwV 1 hts hgood rfl rfl rfl (by decide +kernel) ⟨by simp only [gRoom, headSpec]; omega, by simp only [gRoom, headSpec]; omega⟩) ⟨lPc_blind, va_recv hK hP (ci := 11) rfl hobj1, fun U hU hW => ⟨gPre_of ok0 ⟨hK, hP, hD, hS, hR, Nat.le_refl _, Nat.le_refl _⟩ U hU hW, jX_to hJ hS (fun _ h => h) hU hW⟩⟩ rfl rfl hlv.1 rfl (lv_room (Nat.le_of_ble_eq_true rfl)) (by decide +kernel : decode cL_led 4 = .ok (.invokevirtual 7, 3)) ⟨by simp only [gRoom, headSpec]; omega, by simp only [gRoom, headSpec]; omega⟩
    intro T hT X
    rcases run T hT X with ⟨v, st₀, t, T', L, h0, X', hL, e1, e2, ⟨vv, hvv, ⟨w, ws', tys', hv, hret, hP1, hK1, hD1, hR1, hx1⟩, hz, hk⟩, st⟩ | ⟨q, st₀, t, T', L, E, ce, h0, X', hL, e1, e2, ⟨hxn, rfl, ⟨ws', tys', hP1, hK1, hD1, hR1, hx1⟩, hz, hk⟩, hce, hcv, hcl, st⟩
    · -- it returned
      cases hv
      obtain ⟨x9, rfl, i9, rfl, hi9⟩ := hret
      rcases hcase with ⟨h9, -⟩ | ⟨v2, h9, rfl, e4⟩
      · rw [h9] at hvv; cases hvv
      rw [h9] at hvv
      cases hvv
      rw [h0] at hz hk
      have hal : s.vm.Alike t.vm := by rw [← e2]; exact X'.warmed.alike
      have hSn : va_S (va_A ws s.heap.size) s.heap T'.heap ([] ++ L) := ⟨by rw [e1]; exact hz, fun q h1 h2 => by rw [e1]; exact hk q h1 h2, fun q hq => by
        rcases List.mem_append.mp hq with h | h
        · cases h
        · exact hL q h⟩
      have hSg : gS (D, adK, adV, va_A ws s.heap.size, (p, l, e, gRoom (d + 2) (h3.1.2.1 - h.1.2.1) (h3.1.2.2 - h.1.2.2), s, m, [Value.ref x', .int i1, .ref o'].toArray, below, meth, c, MQ below (gQc D adK ws s.heap.size (some (vI 0)) h3) [Value.ref x', .int i1, .ref o'].toArray s (h3.1.2.1 - h.1.2.1) (h3.1.2.2 - h.1.2.2) (va_A ws s.heap.size)), (h.1.2.1, h.1.2.2), d) ws' tys' (gBump h') T'.heap ([] ++ L) := ⟨va_K.moved hal.symm hK1, by rw [e1]; exact hP1, hD1, hSn, hR1, by simp only [gBump]; have := hle'.2.1; omega, by simp only [gBump]; have := hle'.2.2; omega⟩
      obtain ⟨eo, hoo, -⟩ := hx1 _ _ _ hx2
      have K := g_astl (ls := ls) (rest := []) (pc := 8) ok0 hSg (by decide +kernel : decode cL_led 8 = .ok (.lastore, 1)) e4 (w := .long i9.toInt64) ⟨_, rfl, by simp [hi9]⟩ (wi := .int 0) ⟨0, rfl, rfl⟩ (x := .ref o') ⟨o', eo, rfl, hoo⟩ (fun ws4 H4 locs4 hS4 hx4 => by
        obtain ⟨hK4, hP4, hD4, hSS4, hR4, -, -⟩ := hS4
        refine lv_goto (tgt := 15) hx hb (by decide +kernel : decode cL_led 9 = .ok (.goto 6, 3)) (by decide) ?_
        refine lv_iconst (v := 0) hx hb (by decide +kernel : decode cL_led 15 = .ok (.iconst 0, 1)) (by decide) ?_
        exact W.iret hx hb hr (fun t ht hW => ⟨⟨some (.int 0), ws4, tys', rfl, ⟨_, rfl, 0, rfl, rfl⟩, by rw [ht]; exact hP4, va_K.moved hW.alike hK4, hD4, hR4, hx1.tr hx4⟩, hSS4.F ht⟩) hSS4.2.2 (by decide +kernel : decode cL_led 16 = .ok (.ireturn, 1)))
      have K2 := lv_i2l (pc := 7) (x := i9) (rest := [.int 0, .ref o']) (ls := ls) hx hb (by decide +kernel : decode cL_led 7 = .ok (.i2l, 1)) rfl K
      have ec1 : 0 + (h3.1.2.1 - h.1.2.1) = (gBump h').1.2.1 - h.1.2.1 := by simp only [gBump]; omega
      have ec2 : 0 + (h3.1.2.2 - h.1.2.2) = (gBump h').1.2.2 - h.1.2.2 := by simp only [gBump]; omega
      rw [ec1, ec2] at X'
      obtain ⟨t2, a1, b1⟩ := K2 T' rfl X'
      exact ⟨t2, st t2 a1, b1⟩
    · -- it threw
      rcases hcase with ⟨h9, rfl, rfl⟩ | ⟨v2, h9, -, -⟩
      rotate_left
      · rw [h9] at hxn; cases hxn
      rw [h0] at hz hk
      have hal : s.vm.Alike t.vm := by rw [← e2]; exact X'.warmed.alike
      have hSn : va_S (va_A ws s.heap.size) s.heap T'.heap ([] ++ L) := ⟨by rw [e1]; exact hz, fun q h1 h2 => by rw [e1]; exact hk q h1 h2, fun q hq => by
        rcases List.mem_append.mp hq with h | h
        · cases h
        · exact hL q h⟩
      have fin : vx_W p l e (gRoom (d + 2) ((gBump h').1.2.1 - h.1.2.1) ((gBump h').1.2.2 - h.1.2.2)) s m [Value.ref x', .int i1, .ref o'].toArray below meth c T'.heap ([] ++ L) (0 + ((gBump h').1.2.1 - h.1.2.1)) (0 + ((gBump h').1.2.2 - h.1.2.2)) (MQ below (gQc D adK ws s.heap.size (some (vI 1)) (gBump h')) [Value.ref x', .int i1, .ref o'].toArray s ((gBump h').1.2.1 - h.1.2.1) ((gBump h').1.2.2 - h.1.2.2) (va_A ws s.heap.size)) (F0 m 4 ls [.int 0, .ref o']) q := by
        refine g_catch (name := nsE) (E := nsE) (own := RL) hown ⟨0, 9, 12, 13⟩ htab (by decide) (by decide) (hts _ lx_c13) (va_Nw.use rfl (hJ.1 _ (by simp [gNx]))) (by rw [e1]; exact hce) hcv hcl ?_
        refine lv_astore_n (lv' := [(3, .ref q), (0, .ref x'), (1, .int i1), (2, .ref o')]) hx hb (by decide +kernel : decode cL_led 12 = .ok (.astore_n 3, 1)) rfl hlv (by decide) rfl (fun ls2 hl2 => ?_)
        refine lv_iconst (v := 1) hx hb (by decide +kernel : decode cL_led 13 = .ok (.iconst 1, 1)) (by decide) ?_
        rw [Nat.zero_add, Nat.zero_add]
        exact W.iret hx hb hr (fun t' ht hW => ⟨⟨some (.int 1), ws', tys', rfl, ⟨_, rfl, 1, rfl, rfl⟩, by rw [ht, e1]; exact hP1, va_K.moved hW.alike (va_K.moved hal.symm hK1), hD1, hR1, hx1⟩, hSn.F ht⟩) hSn.2.2 (by decide +kernel : decode cL_led 14 = .ok (.ireturn, 1))
      obtain ⟨t2, a1, b1⟩ := fin T' rfl X'
      exact ⟨t2, st.trans a1, b1⟩
