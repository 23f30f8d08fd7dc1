/-! printed by wip/whole/law2.py: the law's led, its switch and its loop -/

theorem lc_keep0 {ls ls' : Array Slot} {nL i sb : Nat} {w : Value} (hs : ls.size = nL) (h0 : ls[0]? = some (.val (.ref sb))) (hi : 0 < i) (h' : lv_has ls' nL ((i, w) :: (lvL ls nL).filter (fun q => !(q.1 == i) && !(q.1 + 1 == i && q.2.category == 2)))) : ls'[0]? = some (.val (.ref sb)) := by
  refine h'.2.2 (0, .ref sb) (List.mem_cons_of_mem _ (List.mem_filter.mpr ⟨lvL_mem hs h0, ?_⟩))
  have e1 : (0 == i) = false := by simp; omega
  simp [e1, Value.category]
def lawL (X M O i : Nat) : gLo := [none, some (vR (some X)), some (vR (some M)), some (vR (some O)), some (vI i), none, none]
/-- the law's own led, the model's led and what it threw -/
def gLdS (C : gOrc) (n X M O : Nat) (p : Int) (h : gH) : Option gH := match gLed C n X O p h with
  | some (r, h1) => match C 299 [vR (some M), vI p] h1 with
    | some (some (.inl w), h2) => match C 171 [vR (some M)] h2 with
      | some (some (.inl t), h3) => if t = r then (if r = 0 then (if gEl 2 h3 (some O) 0 = some w then some h3 else none) else some h3) else none
      | _ => none
    | _ => none
  | none => none
theorem gLdS_spec {C : gOrc} {n X M O : Nat} {p : Int} {h h' : gH} (hs : gLdS C n X M O p h = some h') : ∃ (r w : Int) (h1 h2 : gH), gLed C n X O p h = some (r, h1) ∧ C 299 [vR (some M), vI p] h1 = some (some (vI w), h2) ∧ C 171 [vR (some M)] h2 = some (some (vI r), h') ∧ (r = 0 → gEl 2 h' (some O) 0 = some w) := by
  unfold gLdS at hs
  split at hs
  rotate_left
  · cases hs
  rename_i r h1 e1
  split at hs
  rotate_left
  · cases hs
  rename_i w h2 e2
  split at hs
  rotate_left
  · cases hs
  rename_i t h3 e3
  split at hs
  rotate_left
  · cases hs
  rename_i htr
  subst htr
  split at hs
  · rename_i h0
    split at hs
    · rename_i hw
      cases hs
      exact ⟨_, w, h1, h2, e1, e2, e3, fun _ => hw⟩
    · cases hs
  · rename_i h0
    cases hs
    exact ⟨_, w, h1, h2, e1, e2, e3, fun q => absurd q h0⟩
/-- what the law's frame knows beside -/
def gLw (Γ : gG) : Prop := match Γ with
  | (_, _, _, A, (_, l, _, R, s, _, _, _, _, _, _), _, d) => l.stackTraces = false ∧ jX A s s.heap ∧ d + 3 ≤ R.frames ∧ 64 * (d + 3) ≤ R.locals ∧ 8 ≤ d
theorem lx_goodL : GoodIn gTw (va_wsS RL 236 yL_led (Cond.codeWith yL_led cL_led 4 (some (FieldType.int)) [(0, 9, 12, 13)] :: gTw)) := by
  intro w hw
  simp only [va_wsS, List.cons_append, List.nil_append, List.mem_cons] at hw
  rcases hw with rfl | rfl | rfl | rfl | hw
  · exact gTw_good _ lx_m236
  · exact gTw_good _ lx_st
  · exact gTw_good _ lx_nL
  · exact gTw_good _ lx_cw
  · exact gTw_good _ hw
theorem g_callLed {C : gOrc} {Γ : gG} {ws : va_W} {tys : gTs} {h h3 : gH} {H : Heap} {locs : List Loc} {ls : Array Slot} {vals : List Value} {n x o : Nat} {p0 r : Int} (ok : gOK (code, RL, 7, false) C Γ) (hw : gLw Γ) (hS : gS Γ ws tys h H locs) (hsz : ls.size = 7) (hrun : gLed C n x o p0 h = some (r, h3)) (hrc : ∃ fs, h.2 x = some (oO 11 fs)) (ha : gArgs Γ.2.1 ws vals [vR (some x), vI p0, vR (some o)]) (hm : gRm Γ h3)
    (kk : ∀ (ws' : va_W) (tys' : gTs) (H' : Heap) (locs' : List Loc) (w : Option Value), gS Γ ws' tys' h3 H' locs' → gExt ws ws' → gRet Γ.2.1 ws' w (some (vI r)) → gW Γ H' locs' h3 (fun m => F0 m 1700 ls (w.toList ++ []))) : gW Γ H locs h (fun m => F0 m 1697 ls (vals.reverse ++ [])) := by
  obtain ⟨D, adK, adV, A, ⟨p, l, e, R, s, m0, args, below, meth, c, Q⟩, b, d⟩ := Γ
  obtain ⟨⟨hx, hb, hml, hown, hts⟩, hA, hfr, hlo, hE, hC, hIn⟩ := id ok
  obtain ⟨hl, hJ, hf3, hl3, hd8⟩ := hw
  obtain ⟨hK, hP, hD, hSS, hR, hb1, hb2⟩ := id hS
  have g2 := gLed_le hrun
  have hfit : (h.1.2.1 - b.1) + (h3.1.2.1 - h.1.2.1) ≤ R.cells ∧ (h.1.2.2 - b.2) + (h3.1.2.2 - h.1.2.2) ≤ R.slots := ⟨by have := hm.1; have := g2.2.1; omega, by have := hm.2; have := g2.2.2; omega⟩
  have hM := gMet_led hl hC hd8 hrun hrc ws tys H.size vals hR ha
  have hAB : ∀ q, va_A ws H.size q → A q := by
    intro q hq
    rcases hq with ⟨j, e0, hj⟩ | hq
    · exact hD.2 j _ hj
    · exact hA q (Nat.le_trans hSS.1 hq)
  have run := vx_runSW (l := l) (e := e) (below := below) (meth := meth) (H := H) (locs := locs) (cells := h.1.2.1 - b.1) (slots := h.1.2.2 - b.2) (As := vals) (rest := []) (g := F0 m0 1697 ls (vals.reverse ++ [])) ⟨hx, hb, hml, hown, hts⟩ hM (vx_cwSW (R := R) 3 hts lx_goodL rfl rfl rfl (by decide +kernel) ⟨by simp only [gRoom]; omega, by simp only [gRoom]; omega⟩) ⟨lPc_blind, fun U hU hW => ⟨gPre_of ok hS U hU hW, jX_to hJ hSS hAB hU hW⟩⟩ rfl (by rw [ha.1]; rfl) hsz rfl (lv_room (Nat.zero_le _)) (by decide +kernel : decode code 1697 = .ok (.invokestatic 236, 3)) hfit
  exact g_call ok hS g2 run kk
theorem sc_ag3 {xs : Nat → Int32} {len X O i : Nat} {L : gLo} {h : gH} (h4 : L[4]? = some (some (vI i))) (h1 : L[1]? = some (some (vR (some X)))) (h3 : L[3]? = some (some (vR (some O)))) (hi : i + 6 ≤ len) (hlen : len ≤ 3072) : aCR (lR 1) (aCI (scI xs len (o2 zAdd (lI 4) (kI 1))) (aCR (lR 3) a0)) L h = some ([vR (some X), vI (xs (i + 1)).toInt, vR (some O)], h) := by
  simp only [aCR, aCI, a0, lR_ev h1, lR_ev h3, Option.bind_some, sc_ev 1 (z := 1) rfl (by decide) h4 hi hlen]
theorem lI_ev {L : gLo} {h : gH} {r : Nat} {v : Int} (h1 : L[r]? = some (some (vI v))) : lI r L h = some (v, h) := by simp [lI, h1]
theorem gLR_at {Γ : gG} {nL : Nat} {ws : va_W} {ls : Array Slot} {L : gLo} (hL : gLR Γ nL ws ls L) {i : Nat} {z : Int} (h : L[i]? = some (some (vI z))) : ∃ x : Int32, ls[i]? = some (.val (.int x)) ∧ x.toInt = z := by
  obtain ⟨w, h1, x, rfl, h2⟩ := hL.2.2 i _ h
  exact ⟨x, h1, h2⟩
theorem gLR_sub {Γ : gG} {nL : Nat} {ws : va_W} {ls : Array Slot} {L L' : gLo} (hL : gLR Γ nL ws ls L) (h : ∀ (i : Nat) (v : gAV), L'[i]? = some (some v) → L[i]? = some (some v)) : gLR Γ nL ws ls L' := ⟨hL.1, hL.2.1, fun i v hv => hL.2.2 i v (h i v hv)⟩
theorem lawL_back {Γ : gG} {X M O i : Nat} {a b : Int} {ws : va_W} {ls : Array Slot} (h : gLR Γ 7 ws ls (gSet 6 (vI b) (gSet 5 (vI a) (lawL X M O i)))) : gLR Γ 7 ws ls (lawL X M O i) := by
  refine gLR_sub h fun j v hv => ?_
  match j, hv with
  | 1, hv => exact hv
  | 2, hv => exact hv
  | 3, hv => exact hv
  | 4, hv => exact hv
  | 0, hv => cases hv
  | 5, hv => cases hv
  | 6, hv => cases hv
  | j + 7, hv => simp [lawL] at hv
/-- the law's call of led -/
theorem lc_52 {C : gOrc} {sb : Nat} {xs : Nat → Int32} {len X M O n : Nat} (Γ : gG) (ok : gOK (code, RL, 7, false) C Γ) (hw : gLw Γ) (hsc : gScr Γ sb xs len) (i : Nat) (h h' : gH) (hi : i + 6 ≤ len) (hlen : len ≤ 3072) (hrc : ∃ fs, h.2 X = some (oO 11 fs)) (hst : gLdS C n X M O (xs (i + 1)).toInt h = some h') (ws : va_W) (tys : gTs) (H : Heap) (locs : List Loc) (ls : Array Slot) (h0 : ls[0]? = some (.val (.ref sb))) (hS : gS Γ ws tys h H locs) (hL : gLR Γ 7 ws ls (lawL X M O i)) (hm : gRm Γ h')
    (kk : ∀ (ws' : va_W) (tys' : gTs) (H' : Heap) (locs' : List Loc) (ls' : Array Slot), gS Γ ws' tys' h' H' locs' → gExt ws ws' → ls'[0]? = some (.val (.ref sb)) → gLR Γ 7 ws' ls' (lawL X M O i) → gW Γ H' locs' h' (fun m => F0 m 1783 ls' [])) : gW Γ H locs h (fun m => F0 m 1689 ls []) := by
  obtain ⟨r, w, h1, h2, e1, e2, e3, e4⟩ := gLdS_spec hst
  have A1 : gAgX (code, RL, 7, false) C sb xs len 0 1689 1697 3 (aCR (lR 1) (aCI (scI xs len (o2 zAdd (lI 4) (kI 1))) (aCR (lR 3) a0))) := gAgX_R (p1 := 1690) (p2 := 1697) (gR_load_n (pc := 1689) (q := 1) rfl (by decide +kernel)) (gAgX_I (p1 := 1696) (p2 := 1697) (gX_sc (pc := 1690) (p2 := 1695) (by decide +kernel) (gI_op2 (p1 := 1693) (p2 := 1694) op_add (gI_load (pc := 1691) (by decide +kernel)) (gI_iconst (pc := 1693) (v := 1) (by decide +kernel) (by decide)) (by decide +kernel)) (by decide +kernel)) (gAgX_R (p1 := 1697) (p2 := 1697) (gR_load_n (pc := 1696) (q := 3) rfl (by decide +kernel)) gAgX_nil))
  have A2 : gEvX vI (code, RL, 7, false) C sb xs len 0 1702 1712 (cI C 299 (aCR (lR 2) (aCI (scI xs len (o2 zAdd (lI 4) (kI 1))) a0))) := gX_call (p1 := 1709) vk_RL_241 (by decide) (gAgX_R (p1 := 1703) (p2 := 1709) (gR_load_n (pc := 1702) (q := 2) rfl (by decide +kernel)) (gAgX_I (p1 := 1709) (p2 := 1709) (gX_sc (pc := 1703) (p2 := 1708) (by decide +kernel) (gI_op2 (p1 := 1706) (p2 := 1707) op_add (gI_load (pc := 1704) (by decide +kernel)) (gI_iconst (pc := 1706) (v := 1) (by decide +kernel) (by decide)) (by decide +kernel)) (by decide +kernel)) gAgX_nil)) (by decide +kernel)
  have A3 : gEvX vI (code, RL, 7, false) C sb xs len 0 1714 1718 (cI C 171 (aCR (lR 2) a0)) := gX_call (p1 := 1715) vk_RL_242 (by decide) (gAgX_R (p1 := 1715) (p2 := 1715) (gR_load_n (pc := 1714) (q := 2) rfl (by decide +kernel)) gAgX_nil) (by decide +kernel)
  have A4 : gC (code, RL, 7, false) C 0 1725 1742 1730 (czC .ne (lI 5)) := gC_zT (p1 := 1727) (off := 15) (gI_load (pc := 1725) (by decide +kernel)) (by decide +kernel) (by decide)
  have A5 : gC (code, RL, 7, false) C 0 1730 1742 1740 (zlC .eq (aI 2 (lR 3) (kI 0)) (lI 6)) := gC_lT (p1 := 1733) (p2 := 1736) (off := 5) (gJ_ald (p1 := 1731) (p2 := 1732) (gR_load_n (pc := 1730) (q := 3) rfl (by decide +kernel)) (gI_iconst (pc := 1731) (v := 0) (by decide +kernel) (by decide)) (by decide +kernel)) (gJ_i2l (p1 := 1735) (gI_load (pc := 1733) (by decide +kernel)) (by decide +kernel)) (by decide +kernel) (by decide +kernel) (by decide)
  obtain ⟨-, -, K1⟩ := A1 Γ ok hsc (lawL X M O i) h _ h (sc_ag3 rfl rfl rfl hi hlen)
  obtain ⟨g2, K2⟩ := A2 Γ ok hsc (gSet 5 (vI r) (lawL X M O i)) h1 w h2 (cI_ev (ag_1 rfl rfl hi hlen) e2)
  obtain ⟨g3, K3⟩ := A3 Γ ok hsc (gSet 6 (vI w) (gSet 5 (vI r) (lawL X M O i))) h2 r h' (cI_ev (ag_0 (i := i) (len := len) rfl rfl hi hlen) e3)
  have g1 := gLed_le e1
  refine K1 ws tys H locs ls [] h0 hS hL gCat0 (gRm.le (g1.tr (g2.tr g3)) hm) fun ws1 tys1 H1 locs1 vals hS1 hx1 hv1 => ?_
  refine g_callLed ok hw hS1 hL.1 e1 hrc hv1 (gRm.le (g2.tr g3) hm) fun ws2 tys2 H2 locs2 w2 hS2 hx2 hr2 => ?_
  obtain ⟨u, rfl, hu⟩ := hr2
  have hu2 := hu
  obtain ⟨ri, rfl, hri⟩ := hu
  have S5 : ∀ ls' : Array Slot, lv_has ls' 7 ((5, Value.int ri) :: (lvL ls 7).filter (fun q => !(q.1 == 5) && !(q.1 + 1 == 5 && q.2.category == 2))) → gW Γ H2 locs2 h1 (fun m => F0 m 1702 ls' []) := by
    intro ls1 hl1
    have hL1 := gLR_st ((hL.ext hx1).ext hx2) hu2 hl1
    have h01 := lc_keep0 hL.1 h0 (by decide) hl1
    refine K2 ws2 tys2 H2 locs2 ls1 [] h01 hS2 hL1 gCat0 (gRm.le g3 hm) fun ws3 tys3 H3 locs3 w3 hS3 hx3 hv3 => ?_
    have hv3b := hv3
    obtain ⟨wi, rfl, hwi⟩ := hv3
    have S6 : ∀ ls' : Array Slot, lv_has ls' 7 ((6, Value.int wi) :: (lvL ls1 7).filter (fun q => !(q.1 == 6) && !(q.1 + 1 == 6 && q.2.category == 2))) → gW Γ H3 locs3 h2 (fun m => F0 m 1714 ls' []) := by
      intro ls2 hl2
      have hL2 := gLR_st (hL1.ext hx3) hv3b hl2
      have h02 := lc_keep0 hL1.1 h01 (by decide) hl2
      refine K3 ws3 tys3 H3 locs3 ls2 [] h02 hS3 hL2 gCat0 hm fun ws4 tys4 H4 locs4 w4 hS4 hx4 hv4 => ?_
      obtain ⟨ti, rfl, hti⟩ := hv4
      have hL4 := hL2.ext hx4
      have hxx : gExt ws ws4 := (hx1.tr hx2).tr (hx3.tr hx4)
      -- what follows when both agree
      have J : ∀ (ws5 : va_W) (tys5 : gTs) (H5 : Heap) (locs5 : List Loc), gS Γ ws5 tys5 h' H5 locs5 → gExt ws4 ws5 → gW Γ H5 locs5 h' (fun m => F0 m 1742 ls2 []) := by
        intro ws5 tys5 H5 locs5 hS5 hx5
        have fin := kk ws5 tys5 H5 locs5 ls2 hS5 (hxx.tr hx5) h02 (lawL_back (hL4.ext hx5))
        obtain ⟨D, adK, adV, A, ⟨p, l, e, R, s, m0, args, below, meth, c, Q⟩, b, d⟩ := Γ
        obtain ⟨⟨hx, hb, hml, hown, hts⟩, -⟩ := ok
        exact lv_goto (tgt := 1783) hx hb (by decide +kernel : decode code 1742 = .ok (.goto 41, 3)) (by decide) fin
      obtain ⟨-, K4⟩ := A4 Γ ok (gSet 6 (vI w) (gSet 5 (vI r) (lawL X M O i))) h' (cmB .ne r 0) h' (by simp only [czC, lI_ev (L := gSet 6 (vI w) (gSet 5 (vI r) (lawL X M O i))) (r := 5) (v := r) rfl, Option.bind_some])
      have next : gW Γ H4 locs4 h' (fun m => F0 m 1725 ls2 []) := by
        refine K4 ws4 tys4 H4 locs4 ls2 [] hS4 hL4 gCat0 hm fun ws5 tys5 H5 locs5 hS5 hx5 => ?_
        by_cases hr0 : r = 0
        · have e5 : cmB .ne r 0 = false := by simp [cmB, hr0]
          rw [e5]
          obtain ⟨-, K5⟩ := A5 Γ ok (gSet 6 (vI w) (gSet 5 (vI r) (lawL X M O i))) h' true h' (by
            have e6 := e4 hr0
            simp only [zlC, cmC, aI, lR_ev (L := gSet 6 (vI w) (gSet 5 (vI r) (lawL X M O i))) (r := 3) (X := O) rfl, lI_ev (L := gSet 6 (vI w) (gSet 5 (vI r) (lawL X M O i))) (r := 6) (v := w) rfl, kI, Option.bind_some, e6]
            simp [cmB])
          refine K5 ws5 tys5 H5 locs5 ls2 [] hS5 (hL4.ext hx5) gCat0 hm fun ws6 tys6 H6 locs6 hS6 hx6 => ?_
          exact J ws6 tys6 H6 locs6 hS6 (hx5.tr hx6)
        · have e5 : cmB .ne r 0 = true := by simp [cmB, hr0]
          rw [e5]
          exact J ws5 tys5 H5 locs5 hS5 hx5
      obtain ⟨r5, hr5, hr5b⟩ := gLR_at hL4 (i := 5) (z := r) rfl
      have e9 : ti = r5 := Int32.toInt_inj.mp (hti.trans hr5b.symm)
      obtain ⟨D, adK, adV, A, ⟨p, l, e, R, s, m0, args, below, meth, c, Q⟩, b, d⟩ := Γ
      obtain ⟨⟨hx, hb, hml, hown, hts⟩, -⟩ := ok
      refine lv_iload hx hb (by decide +kernel : decode code 1718 = .ok (.iload 5, 2)) hr5 ?_
      exact lv_icmp_eq (tgt := 1725) hx hb (by decide +kernel : decode code 1720 = .ok (.if_icmp .eq 5, 3)) (by decide) (fun _ => next) (fun q => absurd e9 q)
    obtain ⟨D, adK, adV, A, ⟨p, l, e, R, s, m0, args, below, meth, c, Q⟩, b, d⟩ := Γ
    obtain ⟨⟨hx, hb, hml, hown, hts⟩, -⟩ := ok
    exact lv_istore hx hb (by decide +kernel : decode code 1712 = .ok (.istore 6, 2)) (lvL_has hL1.1 hL1.2.1) (by decide) rfl S6
  obtain ⟨D, adK, adV, A, ⟨p, l, e, R, s, m0, args, below, meth, c, Q⟩, b, d⟩ := Γ
  obtain ⟨⟨hx, hb, hml, hown, hts⟩, -⟩ := ok
  exact lv_istore hx hb (by decide +kernel : decode code 1700 = .ok (.istore 5, 2)) (lvL_has hL.1 hL.2.1) (by decide) rfl S5

/-- one round of the law -/
def gStep (C : gOrc) (n X M O : Nat) (xs : Nat → Int32) (i : Nat) (h : gH) : Option gH := match (xs i &&& 63).toInt.toNat with
  | 0 => gTwo C X M 88 203 [vI (xs (i + 1)).toInt, vI (xs (i + 2)).toInt, vI (xs (i + 3)).toInt, vI (xs (i + 4)).toInt, vI (xs (i + 5)).toInt] h
  | 1 => gTwo C X M 89 204 [vI (xs (i + 1)).toInt] h
  | 2 => gTwo C X M 90 205 [] h
  | 3 => gTwo C X M 91 206 [] h
  | 4 => gTwo C X M 92 223 [vI (xs (i + 1)).toInt, vI (xs (i + 2)).toInt] h
  | 5 => gTwo C X M 93 224 [vI (xs (i + 1)).toInt, vI (xs (i + 2)).toInt] h
  | 6 => gTwo C X M 94 225 [vI (xs (i + 1)).toInt, vI (xs (i + 2)).toInt, vI (xs (i + 3)).toInt] h
  | 7 => gTwo C X M 95 226 [vI (xs (i + 1)).toInt] h
  | 8 => gTwo C X M 96 227 [] h
  | 9 => gTwo C X M 97 228 [] h
  | 10 => gTwo C X M 98 229 [vI (xs (i + 1)).toInt, vI (xs (i + 2)).toInt] h
  | 11 => gTwo C X M 99 231 [vI (xs (i + 1)).toInt, vI (xs (i + 2)).toInt] h
  | 12 => gTwo C X M 100 232 [vI (xs (i + 1)).toInt, vI (xs (i + 2)).toInt] h
  | 13 => gTwo C X M 101 234 [vI (xs (i + 1)).toInt, vI (xs (i + 2)).toInt] h
  | 14 => gTwo C X M 102 235 [vI (xs (i + 1)).toInt, vI (xs (i + 2)).toInt] h
  | 15 => gTwo C X M 103 237 [vI (xs (i + 1)).toInt] h
  | 16 => gTwo C X M 104 238 [] h
  | 17 => gTwo C X M 105 240 [vI (xs (i + 1)).toInt, vI (xs (i + 2)).toInt] h
  | 18 => gTwo C X M 106 241 [vI (xs (i + 1)).toInt, vI (xs (i + 2)).toInt] h
  | 19 => gTwo C X M 107 245 [vI (xs (i + 1)).toInt] h
  | 20 => gTwo C X M 108 246 [] h
  | 21 => gTwo C X M 109 247 [vI (xs (i + 1)).toInt] h
  | 22 => gTwo C X M 110 249 [vI (xs (i + 1)).toInt] h
  | 23 => gTwo C X M 111 252 [vI (xs (i + 1)).toInt] h
  | 24 => gTwo C X M 112 253 [] h
  | 25 => gTwo C X M 113 254 [] h
  | 26 => gTwo C X M 114 257 [vI (xs (i + 1)).toInt] h
  | 27 => gTwo C X M 115 258 [] h
  | 28 => gTwo C X M 116 259 [vI (xs (i + 1)).toInt] h
  | 29 => gTwo C X M 117 260 [] h
  | 30 => gTwo C X M 118 265 [] h
  | 31 => gTwo C X M 119 266 [vI (xs (i + 1)).toInt] h
  | 32 => gTwo C X M 120 269 [] h
  | 33 => gTwo C X M 121 270 [vI (xs (i + 1)).toInt] h
  | 34 => gTwo C X M 122 273 [] h
  | 35 => gTwo C X M 123 274 [vI (xs (i + 1)).toInt, vI (xs (i + 2)).toInt] h
  | 36 => gTwo C X M 124 276 [vI (xs (i + 1)).toInt] h
  | 37 => gTwo C X M 125 277 [] h
  | 38 => gTwo C X M 126 281 [vI (xs (i + 1)).toInt] h
  | 39 => gTwo C X M 127 282 [vI (xs (i + 1)).toInt, vI (xs (i + 2)).toInt] h
  | 40 => gTwo C X M 128 283 [vI (xs (i + 1)).toInt, vI (xs (i + 2)).toInt] h
  | 41 => gTwo C X M 129 284 [vI (xs (i + 1)).toInt] h
  | 42 => gTwoL C X M 130 285 [vI (xs (i + 1)).toInt, vI (xs (i + 2)).toInt, vB (cmB .ne (xs (i + 3)).toInt 0)] h
  | 43 => gTwo C X M 131 288 [vI (xs (i + 1)).toInt, vI (xs (i + 2)).toInt, vI (xs (i + 3)).toInt] h
  | 44 => gTwo C X M 132 290 [] h
  | 45 => gTwo C X M 133 292 [vI (xs (i + 1)).toInt, vI (xs (i + 2)).toInt] h
  | 46 => gTwo C X M 134 293 [vI (xs (i + 1)).toInt, vI (xs (i + 2)).toInt] h
  | 47 => gTwo C X M 135 294 [vI (xs (i + 1)).toInt, vI (xs (i + 2)).toInt] h
  | 48 => gTwo C X M 136 295 [vI (xs (i + 1)).toInt] h
  | 49 => gTwo C X M 137 296 [] h
  | 50 => gTwo C X M 138 297 [] h
  | 51 => gTwo C X M 139 298 [vI (xs (i + 1)).toInt] h
  | 52 => gLdS C n X M O (xs (i + 1)).toInt h
  | 53 => gTwo C X M 141 300 [vI (xs (i + 1)).toInt] h
  | 54 => gTwo C X M 142 301 [] h
  | _ => some h
theorem ls_tab : decode code 40 = .ok (.tableswitch 1743 0 54 #[236, 309, 334, 347, 360, 397, 434, 483, 508, 521, 534, 571, 608, 645, 682, 719, 744, 757, 794, 831, 856, 869, 894, 919, 944, 957, 970, 995, 1008, 1033, 1046, 1059, 1084, 1097, 1122, 1135, 1172, 1197, 1210, 1235, 1272, 1309, 1334, 1400, 1449, 1462, 1499, 1536, 1573, 1598, 1611, 1624, 1649, 1705, 1730], 236) := by decide +kernel
theorem i63 (x : Int32) : 0 ≤ (x &&& 63).toInt ∧ (x &&& 63).toInt ≤ 63 := by
  have h1 : (x &&& 63).toBitVec = x.toBitVec &&& 63#32 := by rw [Int32.toBitVec_and]; rfl
  have h2 : (x &&& 63).toInt = (x.toBitVec &&& 63#32).toInt := by rw [← h1]; rfl
  have h3 : (x.toBitVec &&& 63#32).toNat ≤ 63 := by rw [BitVec.toNat_and]; exact Nat.and_le_right
  rw [h2, BitVec.toInt_eq_toNat_of_lt (by omega)]
  omega
set_option maxRecDepth 100000 in
/-- the switch -/
theorem law_sw {C : gOrc} {sb : Nat} {xs : Nat → Int32} {len X M O n : Nat} (Γ : gG) (ok : gOK (code, RL, 7, false) C Γ) (hw : gLw Γ) (hsc : gScr Γ sb xs len) (i : Nat) (h h' : gH) (hi : i + 6 ≤ len) (hlen : len ≤ 3072) (hrc : ∃ fs, h.2 X = some (oO 11 fs)) (hst : gStep C n X M O xs i h = some h') (ws : va_W) (tys : gTs) (H : Heap) (locs : List Loc) (ls : Array Slot) (h0 : ls[0]? = some (.val (.ref sb))) (hS : gS Γ ws tys h H locs) (hL : gLR Γ 7 ws ls (lawL X M O i)) (hm : gRm Γ h')
    (kk : ∀ (ws' : va_W) (tys' : gTs) (H' : Heap) (locs' : List Loc) (ls' : Array Slot), gS Γ ws' tys' h' H' locs' → gExt ws ws' → ls'[0]? = some (.val (.ref sb)) → gLR Γ 7 ws' ls' (lawL X M O i) → gW Γ H' locs' h' (fun m => F0 m 1783 ls' [])) : gW Γ H locs h (fun m => F0 m 40 ls [.int (xs i &&& 63)]) := by
  have go : ∀ (c t : Nat), c < 55 → (xs i &&& 63).toInt = (c : Int) → (#[236, 309, 334, 347, 360, 397, 434, 483, 508, 521, 534, 571, 608, 645, 682, 719, 744, 757, 794, 831, 856, 869, 894, 919, 944, 957, 970, 995, 1008, 1033, 1046, 1059, 1084, 1097, 1122, 1135, 1172, 1197, 1210, 1235, 1272, 1309, 1334, 1400, 1449, 1462, 1499, 1536, 1573, 1598, 1611, 1624, 1649, 1705, 1730] : Array Int)[c]? = some ((t : Int) - 40) → gW Γ H locs h (fun m => F0 m t ls []) → gW Γ H locs h (fun m => F0 m 40 ls [.int (xs i &&& 63)]) := by
    intro c t hc he ho k
    obtain ⟨D, adK, adV, A, ⟨p, l, e, R, s, m0, args, below, meth, c0, Q⟩, b, d⟩ := Γ
    obtain ⟨⟨hx, hb, hml, hown, hts⟩, -⟩ := ok
    exact lv_tableIn (off := (t : Int) - 40) (tgt := t) hx hb ls_tab (by rw [he]; omega) (by rw [he]; omega) (by rw [he, Int.sub_zero, Int.toNat_natCast]; exact ho) (by omega) k
  have k2 : ∀ (ws' : va_W) (tys' : gTs) (H' : Heap) (locs' : List Loc), gS Γ ws' tys' h' H' locs' → gExt ws ws' → gW Γ H' locs' h' (fun m => F0 m 1783 ls []) := fun ws' tys' H' locs' q1 q2 => kk ws' tys' H' locs' ls q1 q2 h0 (hL.ext q2)
  have hb63 := i63 (xs i)
  unfold gStep at hst
  split at hst
  · rename_i he; exact go 0 276 (by decide) (by omega) rfl (lc_0 Γ ok hsc i (lawL X M O i) h h' rfl rfl rfl hi hlen hst ws tys H locs ls h0 hS hL hm k2)
  · rename_i he; exact go 1 349 (by decide) (by omega) rfl (lc_1 Γ ok hsc i (lawL X M O i) h h' rfl rfl rfl hi hlen hst ws tys H locs ls h0 hS hL hm k2)
  · rename_i he; exact go 2 374 (by decide) (by omega) rfl (lc_2 Γ ok hsc i (lawL X M O i) h h' rfl rfl rfl hi hlen hst ws tys H locs ls h0 hS hL hm k2)
  · rename_i he; exact go 3 387 (by decide) (by omega) rfl (lc_3 Γ ok hsc i (lawL X M O i) h h' rfl rfl rfl hi hlen hst ws tys H locs ls h0 hS hL hm k2)
  · rename_i he; exact go 4 400 (by decide) (by omega) rfl (lc_4 Γ ok hsc i (lawL X M O i) h h' rfl rfl rfl hi hlen hst ws tys H locs ls h0 hS hL hm k2)
  · rename_i he; exact go 5 437 (by decide) (by omega) rfl (lc_5 Γ ok hsc i (lawL X M O i) h h' rfl rfl rfl hi hlen hst ws tys H locs ls h0 hS hL hm k2)
  · rename_i he; exact go 6 474 (by decide) (by omega) rfl (lc_6 Γ ok hsc i (lawL X M O i) h h' rfl rfl rfl hi hlen hst ws tys H locs ls h0 hS hL hm k2)
  · rename_i he; exact go 7 523 (by decide) (by omega) rfl (lc_7 Γ ok hsc i (lawL X M O i) h h' rfl rfl rfl hi hlen hst ws tys H locs ls h0 hS hL hm k2)
  · rename_i he; exact go 8 548 (by decide) (by omega) rfl (lc_8 Γ ok hsc i (lawL X M O i) h h' rfl rfl rfl hi hlen hst ws tys H locs ls h0 hS hL hm k2)
  · rename_i he; exact go 9 561 (by decide) (by omega) rfl (lc_9 Γ ok hsc i (lawL X M O i) h h' rfl rfl rfl hi hlen hst ws tys H locs ls h0 hS hL hm k2)
  · rename_i he; exact go 10 574 (by decide) (by omega) rfl (lc_10 Γ ok hsc i (lawL X M O i) h h' rfl rfl rfl hi hlen hst ws tys H locs ls h0 hS hL hm k2)
  · rename_i he; exact go 11 611 (by decide) (by omega) rfl (lc_11 Γ ok hsc i (lawL X M O i) h h' rfl rfl rfl hi hlen hst ws tys H locs ls h0 hS hL hm k2)
  · rename_i he; exact go 12 648 (by decide) (by omega) rfl (lc_12 Γ ok hsc i (lawL X M O i) h h' rfl rfl rfl hi hlen hst ws tys H locs ls h0 hS hL hm k2)
  · rename_i he; exact go 13 685 (by decide) (by omega) rfl (lc_13 Γ ok hsc i (lawL X M O i) h h' rfl rfl rfl hi hlen hst ws tys H locs ls h0 hS hL hm k2)
  · rename_i he; exact go 14 722 (by decide) (by omega) rfl (lc_14 Γ ok hsc i (lawL X M O i) h h' rfl rfl rfl hi hlen hst ws tys H locs ls h0 hS hL hm k2)
  · rename_i he; exact go 15 759 (by decide) (by omega) rfl (lc_15 Γ ok hsc i (lawL X M O i) h h' rfl rfl rfl hi hlen hst ws tys H locs ls h0 hS hL hm k2)
  · rename_i he; exact go 16 784 (by decide) (by omega) rfl (lc_16 Γ ok hsc i (lawL X M O i) h h' rfl rfl rfl hi hlen hst ws tys H locs ls h0 hS hL hm k2)
  · rename_i he; exact go 17 797 (by decide) (by omega) rfl (lc_17 Γ ok hsc i (lawL X M O i) h h' rfl rfl rfl hi hlen hst ws tys H locs ls h0 hS hL hm k2)
  · rename_i he; exact go 18 834 (by decide) (by omega) rfl (lc_18 Γ ok hsc i (lawL X M O i) h h' rfl rfl rfl hi hlen hst ws tys H locs ls h0 hS hL hm k2)
  · rename_i he; exact go 19 871 (by decide) (by omega) rfl (lc_19 Γ ok hsc i (lawL X M O i) h h' rfl rfl rfl hi hlen hst ws tys H locs ls h0 hS hL hm k2)
  · rename_i he; exact go 20 896 (by decide) (by omega) rfl (lc_20 Γ ok hsc i (lawL X M O i) h h' rfl rfl rfl hi hlen hst ws tys H locs ls h0 hS hL hm k2)
  · rename_i he; exact go 21 909 (by decide) (by omega) rfl (lc_21 Γ ok hsc i (lawL X M O i) h h' rfl rfl rfl hi hlen hst ws tys H locs ls h0 hS hL hm k2)
  · rename_i he; exact go 22 934 (by decide) (by omega) rfl (lc_22 Γ ok hsc i (lawL X M O i) h h' rfl rfl rfl hi hlen hst ws tys H locs ls h0 hS hL hm k2)
  · rename_i he; exact go 23 959 (by decide) (by omega) rfl (lc_23 Γ ok hsc i (lawL X M O i) h h' rfl rfl rfl hi hlen hst ws tys H locs ls h0 hS hL hm k2)
  · rename_i he; exact go 24 984 (by decide) (by omega) rfl (lc_24 Γ ok hsc i (lawL X M O i) h h' rfl rfl rfl hi hlen hst ws tys H locs ls h0 hS hL hm k2)
  · rename_i he; exact go 25 997 (by decide) (by omega) rfl (lc_25 Γ ok hsc i (lawL X M O i) h h' rfl rfl rfl hi hlen hst ws tys H locs ls h0 hS hL hm k2)
  · rename_i he; exact go 26 1010 (by decide) (by omega) rfl (lc_26 Γ ok hsc i (lawL X M O i) h h' rfl rfl rfl hi hlen hst ws tys H locs ls h0 hS hL hm k2)
  · rename_i he; exact go 27 1035 (by decide) (by omega) rfl (lc_27 Γ ok hsc i (lawL X M O i) h h' rfl rfl rfl hi hlen hst ws tys H locs ls h0 hS hL hm k2)
  · rename_i he; exact go 28 1048 (by decide) (by omega) rfl (lc_28 Γ ok hsc i (lawL X M O i) h h' rfl rfl rfl hi hlen hst ws tys H locs ls h0 hS hL hm k2)
  · rename_i he; exact go 29 1073 (by decide) (by omega) rfl (lc_29 Γ ok hsc i (lawL X M O i) h h' rfl rfl rfl hi hlen hst ws tys H locs ls h0 hS hL hm k2)
  · rename_i he; exact go 30 1086 (by decide) (by omega) rfl (lc_30 Γ ok hsc i (lawL X M O i) h h' rfl rfl rfl hi hlen hst ws tys H locs ls h0 hS hL hm k2)
  · rename_i he; exact go 31 1099 (by decide) (by omega) rfl (lc_31 Γ ok hsc i (lawL X M O i) h h' rfl rfl rfl hi hlen hst ws tys H locs ls h0 hS hL hm k2)
  · rename_i he; exact go 32 1124 (by decide) (by omega) rfl (lc_32 Γ ok hsc i (lawL X M O i) h h' rfl rfl rfl hi hlen hst ws tys H locs ls h0 hS hL hm k2)
  · rename_i he; exact go 33 1137 (by decide) (by omega) rfl (lc_33 Γ ok hsc i (lawL X M O i) h h' rfl rfl rfl hi hlen hst ws tys H locs ls h0 hS hL hm k2)
  · rename_i he; exact go 34 1162 (by decide) (by omega) rfl (lc_34 Γ ok hsc i (lawL X M O i) h h' rfl rfl rfl hi hlen hst ws tys H locs ls h0 hS hL hm k2)
  · rename_i he; exact go 35 1175 (by decide) (by omega) rfl (lc_35 Γ ok hsc i (lawL X M O i) h h' rfl rfl rfl hi hlen hst ws tys H locs ls h0 hS hL hm k2)
  · rename_i he; exact go 36 1212 (by decide) (by omega) rfl (lc_36 Γ ok hsc i (lawL X M O i) h h' rfl rfl rfl hi hlen hst ws tys H locs ls h0 hS hL hm k2)
  · rename_i he; exact go 37 1237 (by decide) (by omega) rfl (lc_37 Γ ok hsc i (lawL X M O i) h h' rfl rfl rfl hi hlen hst ws tys H locs ls h0 hS hL hm k2)
  · rename_i he; exact go 38 1250 (by decide) (by omega) rfl (lc_38 Γ ok hsc i (lawL X M O i) h h' rfl rfl rfl hi hlen hst ws tys H locs ls h0 hS hL hm k2)
  · rename_i he; exact go 39 1275 (by decide) (by omega) rfl (lc_39 Γ ok hsc i (lawL X M O i) h h' rfl rfl rfl hi hlen hst ws tys H locs ls h0 hS hL hm k2)
  · rename_i he; exact go 40 1312 (by decide) (by omega) rfl (lc_40 Γ ok hsc i (lawL X M O i) h h' rfl rfl rfl hi hlen hst ws tys H locs ls h0 hS hL hm k2)
  · rename_i he; exact go 41 1349 (by decide) (by omega) rfl (lc_41 Γ ok hsc i (lawL X M O i) h h' rfl rfl rfl hi hlen hst ws tys H locs ls h0 hS hL hm k2)
  · rename_i he; exact go 42 1374 (by decide) (by omega) rfl (lc_42 Γ ok hsc i (lawL X M O i) h h' rfl rfl rfl hi hlen hst ws tys H locs ls h0 hS hL hm k2)
  · rename_i he; exact go 43 1440 (by decide) (by omega) rfl (lc_43 Γ ok hsc i (lawL X M O i) h h' rfl rfl rfl hi hlen hst ws tys H locs ls h0 hS hL hm k2)
  · rename_i he; exact go 44 1489 (by decide) (by omega) rfl (lc_44 Γ ok hsc i (lawL X M O i) h h' rfl rfl rfl hi hlen hst ws tys H locs ls h0 hS hL hm k2)
  · rename_i he; exact go 45 1502 (by decide) (by omega) rfl (lc_45 Γ ok hsc i (lawL X M O i) h h' rfl rfl rfl hi hlen hst ws tys H locs ls h0 hS hL hm k2)
  · rename_i he; exact go 46 1539 (by decide) (by omega) rfl (lc_46 Γ ok hsc i (lawL X M O i) h h' rfl rfl rfl hi hlen hst ws tys H locs ls h0 hS hL hm k2)
  · rename_i he; exact go 47 1576 (by decide) (by omega) rfl (lc_47 Γ ok hsc i (lawL X M O i) h h' rfl rfl rfl hi hlen hst ws tys H locs ls h0 hS hL hm k2)
  · rename_i he; exact go 48 1613 (by decide) (by omega) rfl (lc_48 Γ ok hsc i (lawL X M O i) h h' rfl rfl rfl hi hlen hst ws tys H locs ls h0 hS hL hm k2)
  · rename_i he; exact go 49 1638 (by decide) (by omega) rfl (lc_49 Γ ok hsc i (lawL X M O i) h h' rfl rfl rfl hi hlen hst ws tys H locs ls h0 hS hL hm k2)
  · rename_i he; exact go 50 1651 (by decide) (by omega) rfl (lc_50 Γ ok hsc i (lawL X M O i) h h' rfl rfl rfl hi hlen hst ws tys H locs ls h0 hS hL hm k2)
  · rename_i he; exact go 51 1664 (by decide) (by omega) rfl (lc_51 Γ ok hsc i (lawL X M O i) h h' rfl rfl rfl hi hlen hst ws tys H locs ls h0 hS hL hm k2)
  · rename_i he; exact go 52 1689 (by decide) (by omega) rfl (lc_52 Γ ok hw hsc i h h' hi hlen hrc hst ws tys H locs ls h0 hS hL hm kk)
  · rename_i he; exact go 53 1745 (by decide) (by omega) rfl (lc_53 Γ ok hsc i (lawL X M O i) h h' rfl rfl rfl hi hlen hst ws tys H locs ls h0 hS hL hm k2)
  · rename_i he; exact go 54 1770 (by decide) (by omega) rfl (lc_54 Γ ok hsc i (lawL X M O i) h h' rfl rfl rfl hi hlen hst ws tys H locs ls h0 hS hL hm k2)
  · rename_i n0 n1 n2 n3 n4 n5 n6 n7 n8 n9 n10 n11 n12 n13 n14 n15 n16 n17 n18 n19 n20 n21 n22 n23 n24 n25 n26 n27 n28 n29 n30 n31 n32 n33 n34 n35 n36 n37 n38 n39 n40 n41 n42 n43 n44 n45 n46 n47 n48 n49 n50 n51 n52 n53 n54
    cases hst
    have hbig : 54 < (xs i &&& 63).toInt := by
      refine Int.not_le.mp fun q => ?_
      have q2 : (xs i &&& 63).toInt.toNat < 55 := by omega
      generalize (xs i &&& 63).toInt.toNat = c at *
      match c, q2 with
      | 0, _ => exact n0 rfl
      | 1, _ => exact n1 rfl
      | 2, _ => exact n2 rfl
      | 3, _ => exact n3 rfl
      | 4, _ => exact n4 rfl
      | 5, _ => exact n5 rfl
      | 6, _ => exact n6 rfl
      | 7, _ => exact n7 rfl
      | 8, _ => exact n8 rfl
      | 9, _ => exact n9 rfl
      | 10, _ => exact n10 rfl
      | 11, _ => exact n11 rfl
      | 12, _ => exact n12 rfl
      | 13, _ => exact n13 rfl
      | 14, _ => exact n14 rfl
      | 15, _ => exact n15 rfl
      | 16, _ => exact n16 rfl
      | 17, _ => exact n17 rfl
      | 18, _ => exact n18 rfl
      | 19, _ => exact n19 rfl
      | 20, _ => exact n20 rfl
      | 21, _ => exact n21 rfl
      | 22, _ => exact n22 rfl
      | 23, _ => exact n23 rfl
      | 24, _ => exact n24 rfl
      | 25, _ => exact n25 rfl
      | 26, _ => exact n26 rfl
      | 27, _ => exact n27 rfl
      | 28, _ => exact n28 rfl
      | 29, _ => exact n29 rfl
      | 30, _ => exact n30 rfl
      | 31, _ => exact n31 rfl
      | 32, _ => exact n32 rfl
      | 33, _ => exact n33 rfl
      | 34, _ => exact n34 rfl
      | 35, _ => exact n35 rfl
      | 36, _ => exact n36 rfl
      | 37, _ => exact n37 rfl
      | 38, _ => exact n38 rfl
      | 39, _ => exact n39 rfl
      | 40, _ => exact n40 rfl
      | 41, _ => exact n41 rfl
      | 42, _ => exact n42 rfl
      | 43, _ => exact n43 rfl
      | 44, _ => exact n44 rfl
      | 45, _ => exact n45 rfl
      | 46, _ => exact n46 rfl
      | 47, _ => exact n47 rfl
      | 48, _ => exact n48 rfl
      | 49, _ => exact n49 rfl
      | 50, _ => exact n50 rfl
      | 51, _ => exact n51 rfl
      | 52, _ => exact n52 rfl
      | 53, _ => exact n53 rfl
      | 54, _ => exact n54 rfl
      | c + 55, q2 => omega
    have fin := k2 ws tys H locs hS gExt.rf
    obtain ⟨D, adK, adV, A, ⟨p, l, e, R, s, m0, args, below, meth, c, Q⟩, b, d⟩ := Γ
    obtain ⟨⟨hx, hb, hml, hown, hts⟩, -⟩ := ok
    exact lv_tableOut (tgt := 1783) hx hb ls_tab (Or.inr hbig) (by decide) fin

theorem law_len {len : Nat} (h : len ≤ 3072) : (Int32.ofNat len - 6).toInt = (len : Int) - 6 := by
  have e1 : (Int32.ofNat len).toInt = (len : Int) := by rw [Int32.toInt_ofNat_of_lt (by omega)]
  have e6 : (6 : Int32).toInt = 6 := by decide
  rw [Int32.toInt_sub, e1, e6, Int.bmod_eq_of_le (by omega) (by omega)]
/-- the loop -/
theorem law_loop {C : gOrc} {sb : Nat} {xs : Nat → Int32} {len X M O n : Nat} (Γ : gG) (ok : gOK (code, RL, 7, false) C Γ) (hw : gLw Γ) (hsc : gScr Γ sb xs len) (hlen : len ≤ 3072) (Inv : Nat → gH → Prop) (hrm : ∀ i h, Inv i h → gRm Γ h) (hX : ∀ i h, Inv i h → ∃ fs, h.2 X = some (oO 11 fs)) (hstep : ∀ i h, i + 6 ≤ len → Inv i h → ∃ h', gStep C n X M O xs i h = some h' ∧ Inv (i + 6) h')
    (kend : ∀ (i : Nat) (h : gH) (ws : va_W) (tys : gTs) (H : Heap) (locs : List Loc) (ls : Array Slot), Inv i h → gS Γ ws tys h H locs → gLR Γ 7 ws ls (lawL X M O i) → gW Γ H locs h (fun m => F0 m 1789 ls [])) :
    ∀ (k i : Nat), len ≤ i + k → ∀ (h : gH) (ws : va_W) (tys : gTs) (H : Heap) (locs : List Loc) (ls : Array Slot), i ≤ len + 6 → Inv i h → ls[0]? = some (.val (.ref sb)) → gS Γ ws tys h H locs → gLR Γ 7 ws ls (lawL X M O i) → gW Γ H locs h (fun m => F0 m 23 ls []) := by
  intro k
  induction k with
  | zero =>
    intro i hk h ws tys H locs ls hil hI h0 hS hL
    have fin := kend i h ws tys H locs ls hI hS hL
    obtain ⟨x, hx4, hxi⟩ := gLR_at hL (i := 4) (z := i) rfl
    obtain ⟨D, adK, adV, A, ⟨p, l, e, R, s, m0, args, below, meth, c, Q⟩, b, d⟩ := Γ
    obtain ⟨⟨hx, hb, hml, hown, hts⟩, -⟩ := ok
    obtain ⟨hXX, hlt, hnA⟩ := hsc
    obtain ⟨-, -, -, hSS, -⟩ := hS
    refine lv_iload hx hb (by decide +kernel : decode code 23 = .ok (.iload 4, 2)) hx4 ?_
    refine lv_aload_n hx hb (by decide +kernel : decode code 25 = .ok (.aload_n 0, 1)) rfl h0 ?_
    refine va_slen hx hb hXX hlt hnA hSS (by decide +kernel : decode code 26 = .ok (.arraylength, 1)) ?_
    refine lv_bipush (v := 6) hx hb (by decide +kernel : decode code 27 = .ok (.bipush 6, 2)) (by decide) ?_
    refine lv_isub hx hb (by decide +kernel : decode code 29 = .ok (.isub, 1)) ?_
    refine lv_icmp_gt (tgt := 1789) hx hb (by decide +kernel : decode code 30 = .ok (.if_icmp .gt 1759, 3)) (by decide) (fun _ => fin) (fun q => absurd ?_ q)
    rw [Int32.lt_iff_toInt_lt, hxi, law_len hlen]
    omega
  | succ k ih =>
    intro i hk h ws tys H locs ls hil hI h0 hS hL
    obtain ⟨x, hx4, hxi⟩ := gLR_at hL (i := 4) (z := i) rfl
    have head : (i + 6 ≤ len → gW Γ H locs h (fun m => F0 m 33 ls [])) → (¬ i + 6 ≤ len → gW Γ H locs h (fun m => F0 m 1789 ls [])) → gW Γ H locs h (fun m => F0 m 23 ls []) := by
      intro kin kout
      obtain ⟨D, adK, adV, A, ⟨p, l, e, R, s, m0, args, below, meth, c, Q⟩, b, d⟩ := Γ
      obtain ⟨⟨hx, hb, hml, hown, hts⟩, -⟩ := ok
      obtain ⟨hXX, hlt, hnA⟩ := hsc
      obtain ⟨-, -, -, hSS, -⟩ := hS
      refine lv_iload hx hb (by decide +kernel : decode code 23 = .ok (.iload 4, 2)) hx4 ?_
      refine lv_aload_n hx hb (by decide +kernel : decode code 25 = .ok (.aload_n 0, 1)) rfl h0 ?_
      refine va_slen hx hb hXX hlt hnA hSS (by decide +kernel : decode code 26 = .ok (.arraylength, 1)) ?_
      refine lv_bipush (v := 6) hx hb (by decide +kernel : decode code 27 = .ok (.bipush 6, 2)) (by decide) ?_
      refine lv_isub hx hb (by decide +kernel : decode code 29 = .ok (.isub, 1)) ?_
      refine lv_icmp_gt (tgt := 1789) hx hb (by decide +kernel : decode code 30 = .ok (.if_icmp .gt 1759, 3)) (by decide) (fun q => kout ?_) (fun q => kin ?_)
      · rw [Int32.lt_iff_toInt_lt, hxi, law_len hlen] at q
        omega
      · rw [Int32.lt_iff_toInt_lt, hxi, law_len hlen] at q
        omega
    refine head (fun hi => ?_) (fun _ => kend i h ws tys H locs ls hI hS hL)
    obtain ⟨h', hst, hI'⟩ := hstep i h hi hI
    have sw := law_sw Γ ok hw hsc i h h' hi hlen (hX i h hI) hst ws tys H locs ls h0 hS hL (hrm _ _ hI') fun ws' tys' H' locs' ls' hS' hx' h0' hL' => ?_
    · obtain ⟨D, adK, adV, A, ⟨p, l, e, R, s, m0, args, below, meth, c, Q⟩, b, d⟩ := Γ
      obtain ⟨⟨hx, hb, hml, hown, hts⟩, -⟩ := ok
      obtain ⟨hXX, hlt, hnA⟩ := hsc
      obtain ⟨-, -, -, hSS, -⟩ := hS
      refine lv_aload_n hx hb (by decide +kernel : decode code 33 = .ok (.aload_n 0, 1)) rfl h0 ?_
      refine lv_iload hx hb (by decide +kernel : decode code 34 = .ok (.iload 4, 2)) hx4 ?_
      obtain ⟨j1, j2, j3⟩ := g_idx hxi (by omega) (by omega : ((i : Nat) : Int) < len)
      have ej : x.toNatClampNeg = i := by omega
      refine va_sld hx hb hXX hlt hnA hSS j1 (by decide +kernel : decode code 36 = .ok (.iaload, 1)) ?_
      rw [ej]
      refine lv_bipush (v := 63) hx hb (by decide +kernel : decode code 37 = .ok (.bipush 63, 2)) (by decide) ?_
      exact lv_iand hx hb (by decide +kernel : decode code 39 = .ok (.iand, 1)) sw
    · obtain ⟨x', hx4', hxi'⟩ := gLR_at hL' (i := 4) (z := i) rfl
      have ev : (x' + Int32.ofInt 6).toInt = ((i + 6 : Nat) : Int) := by
        rw [Int32.toInt_add, hxi']
        have e6 : (Int32.ofInt 6).toInt = 6 := by decide
        rw [e6, Int.bmod_eq_of_le (by omega) (by omega)]
        omega
      have nx : ∀ ls2 : Array Slot, lv_has ls2 7 ((4, Value.int (x' + Int32.ofInt 6)) :: (lvL ls' 7).filter (fun q => !(q.1 == 4) && !(q.1 + 1 == 4 && q.2.category == 2))) → gW Γ H' locs' h' (fun m => F0 m 23 ls2 []) := by
        intro ls2 hl2
        refine ih (i + 6) (by omega) h' ws' tys' H' locs' ls2 (by omega) hI' (lc_keep0 hL'.1 h0' (by decide) hl2) hS' ?_
        have := gLR_st (v := vI ((i + 6 : Nat) : Int)) hL' ⟨_, rfl, ev⟩ hl2
        exact this
      obtain ⟨k4, hk4⟩ := List.getElem?_of_mem (lvL_mem hL'.1 hx4')
      obtain ⟨D, adK, adV, A, ⟨p, l, e, R, s, m0, args, below, meth, c, Q⟩, b, d⟩ := Γ
      obtain ⟨⟨hx, hb, hml, hown, hts⟩, -⟩ := ok
      refine lv_iinc hx hb (by decide +kernel : decode code 1783 = .ok (.iinc 4 6, 3)) (lvL_has hL'.1 hL'.2.1) hk4 rfl (by decide) rfl fun ls2 hl2 => ?_
      exact lv_goto (tgt := 23) hx hb (by decide +kernel : decode code 1786 = .ok (.goto (-1763), 3)) (by decide) (nx ls2 hl2)
