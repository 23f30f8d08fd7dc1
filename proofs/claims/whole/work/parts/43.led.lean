/-! LED: it answers, or throws; the law catches -/
def bX11_led (C : gOrc) : gSt := seS (stI 2 (lI 1)) (seS (stI 3 (kI 0)) (whS (andC (cmC .lt (lI 3) (fI 4 4 (fR 11 2 (lR 0)))) (czC .ge (lI 2))) (ifS (czC .gt (aI 0 (fR 1 8 (cR C 159 (aCR (lR 0) (a0)))) (lI 3))) (seS (ifS (czC .eq (lI 2)) (rtI (lI 3)) skS) (inS 2 (-1))) skS) (inS 3 1)))
theorem tX11_led (C : gOrc) : gT (cX11_led, RX11, 4, false) C 0 46 0 0 (bX11_led C) := gT_se (p1 := 2) (gT_stI_n (p1 := 1) (q := 2) (gI_load_n (pc := 0) (q := 1) rfl (by decide +kernel)) rfl (by decide) (by decide +kernel)) (gT_se (p1 := 4) (gT_stI_n (p1 := 3) (q := 3) (gI_iconst (pc := 2) (v := 0) (by decide +kernel) (by decide)) rfl (by decide) (by decide +kernel)) (gT_wh (pT := 19) (pN := 46) (pS := 40) (q1 := 0) (q2 := 0) (gC_and (p1 := 15) (pT := 19) (pF := 46) (gC_cmpF (off := 34) (op := .lt) (p1 := 5) (p2 := 12) (tgt := 46) (gI_load_n (pc := 4) (q := 3) rfl (by decide +kernel)) (gI_fld (p1 := 9) (gR_fld (p1 := 6) (gR_load_n (pc := 5) (q := 0) rfl (by decide +kernel)) fk_RX11_20 (by decide +kernel)) fk_RX11_130 (by decide +kernel)) (by decide +kernel) (by decide)) (gC_zF (off := 30) (op := .ge) (p1 := 16) (tgt := 46) (gI_load_n (pc := 15) (q := 2) rfl (by decide +kernel)) (by decide +kernel) (by decide))) (gT_if (pT := 31) (pF := 40) (gC_zF (off := 12) (op := .gt) (p1 := 28) (tgt := 40) (gI_ald (p1 := 26) (p2 := 27) (by decide) (gR_fld (p1 := 23) (gR_callV (p1 := 20) vk_RX11_197 (by decide) (gAg_R (p1 := 20) (p2 := 20) (gR_load_n (pc := 19) (q := 0) rfl (by decide +kernel)) (gAg_nil (n := 1) (pc := 20))) (by decide +kernel)) fk_RX11_261 (by decide +kernel)) (gI_load_n (pc := 26) (q := 3) rfl (by decide +kernel)) (by decide +kernel)) (by decide +kernel) (by decide)) (gT_se (p1 := 37) (gT_if (pT := 35) (pF := 37) (gC_zF (off := 5) (op := .eq) (p1 := 32) (tgt := 37) (gI_load_n (pc := 31) (q := 2) rfl (by decide +kernel)) (by decide +kernel) (by decide)) (gT_rtI (p1 := 36) (gI_load_n (pc := 35) (q := 3) rfl (by decide +kernel)) (by decide +kernel)) (gT_sk (pc := 37))) (gT_in (pc := 37) (by decide) (by decide) (by decide +kernel))) (gT_sk (pc := 40))) (gT_j (off := (-39)) (p1 := 43) (q := 4) (gT_in (pc := 40) (by decide) (by decide) (by decide +kernel)) (by decide +kernel) (by decide))))
theorem lx_c391 : Cond.classLink RX11 391 "java/util/NoSuchElementException" ∈ gTw := (gTw_6 135 (by decide +kernel) (by decide +kernel))
theorem lx_n : Cond.initialized "java/util/NoSuchElementException" ∈ gTw := (gTw_1 26 (by decide +kernel) (by decide +kernel))
theorem lx_c13 : Cond.classLink RL 13 "java/util/NoSuchElementException" ∈ gTw := (gTw_6 130 (by decide +kernel) (by decide +kernel))
theorem lx_m7 : Cond.methodLink RL 7 yX11_led ∈ gTw := (gTw_6 131 (by decide +kernel) (by decide +kernel))
theorem lx_i : Cond.instanceMethod yX11_led ∈ gTw := (gTw_6 132 (by decide +kernel) (by decide +kernel))
theorem lx_s : Cond.selects RX11 yX11_led yX11_led ∈ gTw := (gTw_6 133 (by decide +kernel) (by decide +kernel))
theorem lx_nB : Cond.initialized RX11 ∈ gTw := (gTw_1 1 (by decide +kernel) (by decide +kernel))
theorem lx_code : Cond.code yX11_led cX11_led 4 (some (FieldType.int)) ∈ gTw := (gTw_6 134 (by decide +kernel) (by decide +kernel))
theorem lx_cw : Cond.codeWith yL_led cL_led 4 (some (FieldType.int)) [(0, 9, 12, 13)] ∈ gTw := (gTw_6 129 (by decide +kernel) (by decide +kernel))
theorem lx_st : Cond.static yL_led ∈ gTw := (gTw_6 128 (by decide +kernel) (by decide +kernel))
theorem lx_nL : Cond.initialized RL ∈ gTw := (gTw_1 0 (by decide +kernel) (by decide +kernel))
theorem lx_m236 : Cond.methodLink RL 236 yL_led ∈ gTw := (gTw_6 127 (by decide +kernel) (by decide +kernel))
-- what is known of the machine where something is thrown
def nsE : String := "java/util/NoSuchElementException"
def gNx : List Cond := [.declares ⟨"java/lang/RuntimeException", "<init>", "()V"⟩, .declares ⟨"java/lang/Exception", "<init>", "()V"⟩, .declares ⟨"java/lang/Throwable", "<init>", "()V"⟩, .castable nsE nsE]
def jX (A : Nat → Prop) (U : State) (H : Heap) : Prop := (∀ w ∈ gNx, va_Nw w U) ∧ vx_Zq Bundle.tN "UNASSIGNED_STACK" Bundle.steD A U H ∧ vx_Zq Bundle.tN "SUPPRESSED_SENTINEL" Bundle.listD A U H
theorem gNx_warm {w : Cond} (hw : w ∈ gNx) {s U : State} (hW : s.WarmedH U.vm) (h : va_Nw w s) : va_Nw w U := by
  simp only [gNx, List.mem_cons, List.not_mem_nil, or_false] at hw
  rcases hw with rfl | rfl | rfl | rfl
  · exact va_Nw.warmD hW h
  · exact va_Nw.warmD hW h
  · exact va_Nw.warmD hW h
  · exact va_Nw.warmC hW h
theorem gNx_same {w : Cond} (hw : w ∈ gNx) {s U : State} (hW : s.vm = U.vm) (h : va_Nw w s) : va_Nw w U := by
  simp only [gNx, List.mem_cons, List.not_mem_nil, or_false] at hw
  rcases hw with rfl | rfl | rfl | rfl
  · exact va_Nw.same rfl hW h
  · exact va_Nw.same rfl hW h
  · exact va_Nw.same rfl hW h
  · exact va_Nw.same rfl hW h
theorem jX_to {A B : Nat → Prop} {s U : State} {H : Heap} {locs : List Loc} (h : jX A s s.heap) (hS : va_S A s.heap H locs) (hAB : ∀ q, B q → A q) (hU : U.heap = H) (hW : s.WarmedH U.vm) : jX B U U.heap := by
  obtain ⟨h1, h2, h3⟩ := h
  have hk : ∀ a : Nat, a < s.heap.size → ¬ A a → H[a]? = s.heap[a]? := fun a ha hn => hS.2.1 a ha hn
  rw [hU]
  exact ⟨fun w hw => gNx_warm hw hW (h1 w hw), ((h2.kept hk).moved hW.alike).narrow hAB, ((h3.kept hk).moved hW.alike).narrow hAB⟩
def lPc (D : va_G) (adK adV : Nat → Nat) (tys : gTs) (ws : va_W) (sz : Nat) (vals : List Value) : Array Value → State → Prop := fun v U => gPc D adK adV tys ws sz vals v U ∧ jX (va_A ws sz) U U.heap
theorem lPc_blind {D : va_G} {adK adV : Nat → Nat} {tys : gTs} {ws : va_W} {sz : Nat} {vals : List Value} : FrameBlind (lPc D adK adV tys ws sz vals) := by
  intro a U g mk q
  obtain ⟨q1, q2, q3, q4⟩ := q
  exact ⟨gPc_blind a U g mk q1, fun w hw => gNx_same (s := U) hw rfl (q2 w hw), vx_Zq.moved (u := U) (U := U.calling g mk a) (Vm.Alike.refl U.vm) q3, vx_Zq.moved (u := U) (U := U.calling g mk a) (Vm.Alike.refl U.vm) q4⟩
def gBump (h : gH) : gH := ((h.1.1, h.1.2.1 + 1, h.1.2.2 + 6), h.2)
theorem gLe_bump {h : gH} : gLe h (gBump h) := ⟨Nat.le_refl _, Nat.le_succ _, Nat.le_add_right _ _⟩
def lXC (D : va_G) (adK : Nat → Nat) (ws : va_W) (sz : Nat) (h' : gH) (ex : gEx) : String → State → State → Prop := fun E st t => ex = none ∧ E = nsE ∧ (∃ (ws' : va_W) (tys' : gTs), va_P D vwCl ws' t.heap ∧ va_K D vwCl tys' t ∧ va_D (va_A ws sz) ws' ∧ gHR adK tys' ws' h' ∧ gExt ws ws') ∧ va_F (va_A ws sz) st t
def lQc (D : va_G) (adK : Nat → Nat) (ws : va_W) (sz : Nat) (h' : gH) (ex : gEx) : Array Value → State → Outcome → State → Prop := fun a st o t => ∃ v : Int, ex = some (3, some (vI v)) ∧ gQc D adK ws sz (some (vI v)) h' a st o t
theorem lx_at : ∀ w ∈ (vx_at0 RX11 393 nsE ["java/lang/RuntimeException", "java/lang/Exception"]).filter goodWord, w ∈ lw_tbl := by decide +kernel
theorem lx_ng : ∀ w ∈ (vx_at0 RX11 393 nsE ["java/lang/RuntimeException", "java/lang/Exception"]).filter (fun w => !goodWord w), w ∈ gNx := by decide +kernel
theorem lx_ot : ∀ w ∈ Cond.classLink RX11 391 nsE :: Cond.initialized nsE :: vx_at0 RX11 393 nsE ["java/lang/RuntimeException", "java/lang/Exception"], vx_ot w = true := by decide +kernel
set_option maxRecDepth 100000 in
theorem led_met {l : Launch} (hl : l.stackTraces = false) {D : va_G} {adK adV : Nat → Nat} {d : Nat} {C : gOrc} (hC : gOrcOK l D adK adV d C) (hd : 8 ≤ d) {n : Nat} {as : List gAV} {h h' : gH} {ex : gEx} {L' : gLo} (hlay : (gLay as).length ≤ 4) (hrun : bX11_led C n (gEnt 4 as) h = some (ex, L', h')) (hex : ex = none ∨ ∃ v : Int, ex = some (3, some (vI v))) (ws : va_W) (tys : gTs) (sz : Nat) (vals : List Value) (hR : gHR adK tys ws h) (hA0 : gArgs adK ws vals as) :
    vx_Met l yX11_led (Cond.code yX11_led cX11_led 4 (some (FieldType.int)) :: gTw) (gRoom (d + 1) (h'.1.2.1 - h.1.2.1 + 1) (h'.1.2.2 - h.1.2.2 + 6)) (lPc D adK adV tys ws sz vals) (lQc D adK ws sz h' ex) (lXC D adK ws sz h' ex) (h'.1.2.1 - h.1.2.1 + 1) (h'.1.2.2 - h.1.2.2 + 6) (va_A ws sz) := by
  refine vx_ofW (cc := cX11_led) (maxL := 4) (ret := some .int) (by decide) rfl ?_
  intro p e s m args below meth c s₁ B hml htab hv
  obtain ⟨⟨rfl, hsz, hP, hK, hD0, hE⟩, hJ⟩ := hv
  have hx := B.exec
  have hb := B.bytes
  have hr := B.returns
  have hts0 := atoms_spec (ws := Cond.code yX11_led cX11_led 4 (some (FieldType.int)) :: gTw) B.pre
  have hts : ∀ w ∈ gTw, w.before vals.toArray s = true := fun w hw => hts0 w (List.mem_cons_of_mem _ hw)
  have hown : s.vm.findClass RX11 = some m.cls := findClass_of_methodNamed B.named
  have hlocks := B.notSynchronized
  subst hsz
  have hD := hD0.self (sz := s.heap.size)
  have hA : ∀ q : Nat, s.heap.size ≤ q → va_A ws s.heap.size q := fun q h => Or.inr h
  obtain ⟨l1, l2⟩ := gLay_args hA0 0
  have hlv := lv_entry vals (n := 4) (by rw [l1]; exact hlay)
  rw [lg_entry_eq]
  generalize (lg_sl vals ++ List.replicate (4 - (lg_sl vals).length) Slot.unset).toArray = ls at hlv ⊢
  have ok : gOK (cX11_led, RX11, 4, false) C (D, adK, adV, va_A ws s.heap.size, (p, l, e, gRoom (d + 1) (h'.1.2.1 - h.1.2.1 + 1) (h'.1.2.2 - h.1.2.2 + 6), s, m, vals.toArray, below, meth, c, vx_MQ below (lQc D adK ws s.heap.size h' ex) (lXC D adK ws s.heap.size h' ex) vals.toArray s (h'.1.2.1 - h.1.2.1 + 1) (h'.1.2.2 - h.1.2.2 + 6) (va_A ws s.heap.size)), (h.1.2.1, h.1.2.2), d) :=
    ⟨⟨hx, hb, hml, hown, hts⟩, hA, Nat.le_refl _, Nat.le_refl _, hE, hC, fun hi => by cases hi⟩
  obtain ⟨hle, K⟩ := tX11_led C _ ok n _ h _ L' h' hrun
  have hS : va_S (va_A ws s.heap.size) s.heap s.heap [] := va_S.rf
  have hL : gLR (D, adK, adV, va_A ws s.heap.size, (p, l, e, gRoom (d + 1) (h'.1.2.1 - h.1.2.1 + 1) (h'.1.2.2 - h.1.2.2 + 6), s, m, vals.toArray, below, meth, c, vx_MQ below (lQc D adK ws s.heap.size h' ex) (lXC D adK ws s.heap.size h' ex) vals.toArray s (h'.1.2.1 - h.1.2.1 + 1) (h'.1.2.2 - h.1.2.2 + 6) (va_A ws s.heap.size)), (h.1.2.1, h.1.2.2), d) 4 ws ls (gEnt 4 as) := by
    refine ⟨hlv.1, hlv.2.1, fun i u hu => ?_⟩
    unfold gEnt at hu
    by_cases hi : i < (gLay as).length
    · rw [List.getElem?_append_left hi] at hu
      obtain ⟨w, w1, w2⟩ := l2 i u hu
      rw [Nat.zero_add] at w1
      exact ⟨w, hlv.2.2 _ w1, w2⟩
    · rw [List.getElem?_append_right (by omega), List.getElem?_replicate] at hu
      split at hu <;> cases hu
  have fin := K ws tys s.heap [] ls ⟨hK, hP, hD, hS, hR, Nat.le_refl _, Nat.le_refl _⟩ hL ⟨Nat.le_succ _, Nat.le_add_right _ _⟩ fun ws' tys' H' locs' ls' hS' hx' hL' => ?_
  · simp only [gW, Nat.sub_self] at fin
    exact fin
  obtain ⟨hK', hP', hD', hSS', hR', hc1, hc2⟩ := hS'
  rcases hex with rfl | ⟨v, rfl⟩
  · refine vx_throw0 hx hb hl hown (by decide +kernel) (by decide +kernel) (hts _ lx_c391) (hts _ lx_n) (vx_hat (B := gNx) (fun w hw => hts _ (gTw_mem (lx_at w hw) (List.mem_filter.mp hw).2)) lx_ng (fun w hw => va_Nw.use (by
        simp only [gNx, List.mem_cons, List.not_mem_nil, or_false] at hw
        rcases hw with rfl | rfl | rfl | rfl <;> rfl) (hJ.1 w hw))) lx_ot hJ.2.1 hJ.2.2 hSS' (hL'.1.trans hml.symm) (by decide +kernel : decode cX11_led 46 = .ok (.new 391, 3)) (by decide +kernel : decode cX11_led (46 + 3) = .ok (.dup, 1)) (by decide +kernel : decode cX11_led (46 + 4) = .ok (.invokespecial 393, 3)) (by decide +kernel : decode cX11_led (46 + 7) = .ok (.athrow, 1)) (fun x hx => (htab x hx).elim) (by simp only [gRoom, List.length_cons, List.length_nil]; omega) (by simp only [gRoom, List.length_cons, List.length_nil, List.map_nil, List.sum_nil]; omega) (Nat.le_refl _) (Nat.le_refl _) hlocks ?_ hSS'.2.2 (Nat.le_refl _) (Nat.le_refl _)
    intro t hal hz hk
    have hkp : ∀ (k : Nat) (x : Nat × va_E), ws'[k]? = some x → t.heap[x.1]? = H'[x.1]? := fun k x hx => hk x.1 ((hP' k x hx).lt)
    exact ⟨rfl, rfl, ⟨ws', tys', hP'.kept hkp, va_K.moved hal hK', hD', hR', hx'⟩, Nat.le_trans hSS'.1 hz, fun q h1 h2 => (hk q (Nat.lt_of_lt_of_le h1 hSS'.1)).trans (hSS'.2.1 q h1 h2)⟩
  · intro w pc ls1 hret hdec
    obtain ⟨x, rfl, i, rfl, hi⟩ := hret
    refine W.widen (k := h'.1.2.1 - h.1.2.1 + 1) (n := h'.1.2.2 - h.1.2.2 + 6) (Nat.le_succ _) (Nat.le_add_right _ _) (vx_ret ?_)
    exact W.iret hx hb hr (fun t ht hW => ⟨v, rfl, ⟨some (.int i), ws', tys', rfl, ⟨_, rfl, i, rfl, hi⟩, by rw [ht]; exact hP', va_K.moved hW.alike hK', hD', hR', hx'⟩, hSS'.F ht⟩) hSS'.2.2 hdec
