/-! SWITCHES, COPIES, METHODS -/
section T3
variable {k : gK} {C : gOrc} {pc p1 p2 p3 p4 p5 pN pB pC : Nat}
/-- the cases by their places: each begins at tg -/
def gTcs (k : gK) (C : gOrc) (pN pC : Nat) : List Nat → List gSt → Prop
  | [], [] => True
  | t :: ts, s :: ss => gT k C t pN pN pC s ∧ gTcs k C pN pC ts ss
  | _, _ => False
theorem gTcs_get : ∀ {ts : List Nat} {ss : List gSt} (h : gTcs k C pN pC ts ss), ts.length = ss.length ∧ ∀ (i t : Nat) (s : gSt), ts[i]? = some t → ss[i]? = some s → gT k C t pN pN pC s := by
  intro ts
  induction ts with
  | nil =>
    intro ss h
    cases ss with
    | nil => exact ⟨rfl, fun i t s h1 _ => by simp at h1⟩
    | cons s ss => exact h.elim
  | cons t ts ih =>
    intro ss h
    cases ss with
    | nil => exact h.elim
    | cons s ss =>
      obtain ⟨l1, l2⟩ := ih h.2
      refine ⟨by simp [l1], fun i t' s' h1 h2 => ?_⟩
      cases i with
      | zero => simp at h1 h2; subst h1; subst h2; exact h.1
      | succ i => simp at h1 h2; exact l2 i t' s' h1 h2
theorem gT_sw {e0 : gIE} {lo hi dflt : Int} {offs : Array Int} {len : Nat} {ts : List Nat} {td : Nat} {cs : List gSt} {df : gSt} (he0 : gI k C 0 pc p1 e0) (hd : decode k.1 p1 = .ok (.tableswitch dflt lo hi offs, len)) (hlen : hi = lo + (ts.length : Int) - 1) (htd : (p1 : Int) + dflt = (td : Int)) (hts : offs.toList = ts.map (fun t : Nat => (t : Int) - (p1 : Int))) (hcs : gTcs k C pN pC ts cs) (hdf : gT k C td pN pN pC df) : gT k C pc pN pB pC (swS e0 lo cs df) := by
  intro Γ ok f L h ex L' h' he
  simp only [swS, Option.bind_eq_some_iff] at he
  obtain ⟨⟨x, h1⟩, e1, ⟨ex2, L2, h2⟩, e2, he⟩ := he
  obtain ⟨g1, K1⟩ := he0 Γ ok L h x h1 e1
  obtain ⟨c1, c2⟩ := gTcs_get hcs
  -- which of the statements it is, and where it begins
  have main : ∀ (s : gSt) (t : Nat), gT k C t pN pN pC s → s f L h1 = some (ex2, L2, h2) → (∀ Γ : gG, gOK k C Γ → ∀ (H : Heap) (locs : List Loc) (ls : Array Slot) (w : Value) (adK : Nat → Nat) (ws : va_W), gVr adK ws w (vI x) → gW Γ H locs h1 (fun m => F0 m t ls []) → gW Γ H locs h1 (fun m => F0 m p1 ls [w])) → gLe h h' ∧ ∀ (ws : va_W) (tys : gTs) (H : Heap) (locs : List Loc) (ls : Array Slot), gS Γ ws tys h H locs → gLR Γ k.2.2.1 ws ls L → gRm Γ h' →
      (∀ (ws' : va_W) (tys' : gTs) (H' : Heap) (locs' : List Loc) (ls' : Array Slot), gS Γ ws' tys' h' H' locs' → gExt ws ws' → gLR Γ k.2.2.1 ws' ls' L' → gXt k Γ pN pB pC ex H' locs' h' ls' ws') → gW Γ H locs h (fun m => F0 m pc ls []) := by
    intro s t hs es hgo
    obtain ⟨g2, K2⟩ := hs Γ ok f L h1 ex2 L2 h2 es
    have hex : h2 = h' ∧ L2 = L' ∧ (∀ (H' : Heap) (locs' : List Loc) (ls' : Array Slot) (ws' : va_W), gXt k Γ pN pB pC ex H' locs' h' ls' ws' → gXt k Γ pN pN pC ex2 H' locs' h' ls' ws') := by
      match ex2, he with
      | none, he => cases he; exact ⟨rfl, rfl, fun _ _ _ _ q => q⟩
      | some (0, v), he => cases he; exact ⟨rfl, rfl, fun _ _ _ _ q => q⟩
      | some (1, v), he => cases he; exact ⟨rfl, rfl, fun _ _ _ _ q => q⟩
      | some (2, v), he => cases he; exact ⟨rfl, rfl, fun _ _ _ _ q => q⟩
      | some (3, v), he => cases he; exact ⟨rfl, rfl, fun _ _ _ _ q => q⟩
      | some (j + 4, v), he => cases he; exact ⟨rfl, rfl, fun _ _ _ _ q => q⟩
    obtain ⟨rfl, rfl, hex⟩ := hex
    refine ⟨g1.tr g2, fun ws tys H locs ls hS hL hm kk => ?_⟩
    refine K1 ws tys H locs ls [] hS hL gCat0 (gRm.le g2 hm) fun ws1 tys1 H1 locs1 w1 hS1 hx1 hv1 => ?_
    refine hgo Γ ok H1 locs1 ls w1 _ _ hv1 ?_
    exact K2 ws1 tys1 H1 locs1 ls hS1 (hL.ext hx1) hm fun ws2 tys2 H2 locs2 ls2 hS2 hx2 hL2 => hex _ _ _ _ (kk ws2 tys2 H2 locs2 ls2 hS2 (hx1.tr hx2) hL2)
  have out : (x < lo ∨ hi < x) → ∀ Γ : gG, gOK k C Γ → ∀ (H : Heap) (locs : List Loc) (ls : Array Slot) (w : Value) (adK : Nat → Nat) (ws : va_W), gVr adK ws w (vI x) → gW Γ H locs h1 (fun m => F0 m td ls []) → gW Γ H locs h1 (fun m => F0 m p1 ls [w]) := by
    intro hx0 Γ ok H locs ls w adK ws hv kk
    obtain ⟨j, rfl, hj⟩ := hv
    obtain ⟨D, adK', adV, A, ⟨p, l, e, R, s, m, args, below, meth, c, Q⟩, b, d⟩ := Γ
    obtain ⟨⟨hx, hb, hml, hown, hts⟩, -⟩ := ok
    exact lv_tableOut hx hb hd (by rw [hj]; exact hx0) htd kk
  dsimp only at e2
  split at e2
  · rename_i hlo
    rw [List.getD_eq_getElem?_getD] at e2
    by_cases hin : (x - lo).toNat < cs.length
    · have hge : cs[(x - lo).toNat]? = some cs[(x - lo).toNat] := List.getElem?_eq_getElem hin
      have htl : (x - lo).toNat < ts.length := by rw [c1]; exact hin
      have hte : ts[(x - lo).toNat]? = some ts[(x - lo).toNat] := List.getElem?_eq_getElem htl
      rw [hge] at e2
      refine main _ _ (c2 _ _ _ hte hge) e2 fun Γ ok H locs ls w adK ws hv kk => ?_
      obtain ⟨j, rfl, hj⟩ := hv
      obtain ⟨D, adK', adV, A, ⟨p, l, e, R, s, m, args, below, meth, c, Q⟩, b, d⟩ := Γ
      obtain ⟨⟨hx, hb, hml, hown, hts'⟩, -⟩ := ok
      refine lv_tableIn (off := (ts[(x - lo).toNat] : Int) - (p1 : Int)) (tgt := ts[(x - lo).toNat]) hx hb hd (by rw [hj]; omega) (by rw [hj]; omega) ?_ (by omega) kk
      rw [hj, ← Array.getElem?_toList, hts, List.getElem?_map, hte]
      rfl
    · rw [List.getElem?_eq_none (by omega)] at e2
      exact main _ _ hdf e2 (out (Or.inr (by omega)))
  · rename_i hlo
    exact main _ _ hdf e2 (out (Or.inl (by omega)))
theorem gAc_spec {ty : Nat} {h h' : gH} {r q : Option Nat} {sp dp n : Int} (he : gAc ty h r q sp dp n = some h') : ∃ (a c na nc : Nat) (f g : Int → Int), r = some a ∧ q = some c ∧ h.2 a = some (oA ty na f) ∧ h.2 c = some (oA ty nc g) ∧ 0 ≤ sp ∧ 0 ≤ dp ∧ 0 ≤ n ∧ sp + n ≤ na ∧ dp + n ≤ nc ∧ h' = (h.1, gUp h.2 c (some (oA ty nc (gCpy f g sp dp n)))) := by
  unfold gAc at he
  split at he
  · rename_i a c
    split at he
    · rename_i t na f u nc g hq1 hq2
      split at he
      · rename_i hc
        obtain ⟨rfl, rfl, h1, h2, h3, h4, h5, h6⟩ := hc
        cases he
        exact ⟨a, c, na, nc, f, g, rfl, rfl, hq1, hq2, h2, h3, h4, h5, h6, rfl⟩
      · cases he
    · cases he
  · cases he
theorem g_cpy {n0 n1 : Nat} {f g : Int → Int} {f' g' : Nat → Int32} (hf : ∀ i : Nat, i < n0 → f i = (f' i).toInt) (hg : ∀ i : Nat, i < n1 → g i = (g' i).toInt) {sp dp n : Nat} (h1 : sp + n ≤ n0) : ∀ i : Nat, i < n1 → gCpy f g sp dp n i = (va_cpy f' g' sp dp n i).toInt := by
  intro i hi
  unfold gCpy va_cpy
  by_cases hc : dp ≤ i ∧ i < dp + n
  · rw [if_pos (by omega), if_pos hc, ← hf _ (by omega)]
    congr 1
    omega
  · rw [if_neg (by omega), if_neg hc, hg i hi]
theorem g_cpyL {n0 n1 : Nat} {f g : Int → Int} {f' g' : Nat → Int64} (hf : ∀ i : Nat, i < n0 → f i = (f' i).toInt) (hg : ∀ i : Nat, i < n1 → g i = (g' i).toInt) {sp dp n : Nat} (h1 : sp + n ≤ n0) : ∀ i : Nat, i < n1 → gCpy f g sp dp n i = (va_cpy f' g' sp dp n i).toInt := by
  intro i hi
  unfold gCpy va_cpy
  by_cases hc : dp ≤ i ∧ i < dp + n
  · rw [if_pos (by omega), if_pos hc, ← hf _ (by omega)]
    congr 1
    omega
  · rw [if_neg (by omega), if_neg hc, hg i hi]
theorem gT_cp {ix ty : Nat} {a c : gRE} {sp dp n : gIE} (ht : ty = 0 ∨ ty = 2) (hl : Cond.methodLink k.2.1 ix arraycopyName ∈ gTw) (hn : Cond.native arraycopyName ∈ gTw) (hs : Cond.static arraycopyName ∈ gTw) (hi : Cond.initialized "java/lang/System" ∈ gTw) (ha : gR k C 0 pc p1 a) (hsp : gI k C 1 p1 p2 sp) (hc : gR k C 2 p2 p3 c) (hdp : gI k C 3 p3 p4 dp) (hnn : gI k C 4 p4 p5 n) (hd : decode k.1 p5 = .ok (.invokestatic ix, 3)) : gT k C pc (p5 + 3) pB pC (cpS ty a sp c dp n) := by
  intro Γ ok f L h ex L' h' he
  simp only [cpS, Option.bind_eq_some_iff, Option.some.injEq, Prod.mk.injEq] at he
  obtain ⟨⟨x, h1⟩, e1, ⟨y, h2⟩, e2, ⟨z, h3⟩, e3, ⟨u, h4⟩, e4, ⟨v, h5⟩, e5, h6, e6, rfl, rfl, rfl⟩ := he
  obtain ⟨g1, K1⟩ := ha Γ ok L h x h1 e1
  obtain ⟨g2, K2⟩ := hsp Γ ok L h1 y h2 e2
  obtain ⟨g3, K3⟩ := hc Γ ok L h2 z h3 e3
  obtain ⟨g4, K4⟩ := hdp Γ ok L h3 u h4 e4
  obtain ⟨g5, K5⟩ := hnn Γ ok L h4 v h5 e5
  obtain ⟨qa, qc, na, nc, ff, gg, rfl, rfl, hqa, hqc, i1, i2, i3, i4, i5, rfl⟩ := gAc_spec e6
  have g6 : gLe h5 (h5.1, gUp h5.2 qc (some (oA ty nc (gCpy ff gg y u v)))) := gLe.of rfl
  refine ⟨g1.tr (g2.tr (g3.tr (g4.tr (g5.tr g6)))), fun ws tys H locs ls hS hL hm kk => ?_⟩
  refine K1 ws tys H locs ls [] hS hL gCat0 (gRm.le (g2.tr (g3.tr (g4.tr (g5.tr g6)))) hm) fun ws1 tys1 H1 locs1 w1 hS1 hx1 hv1 => ?_
  refine K2 ws1 tys1 H1 locs1 ls [w1] hS1 (hL.ext hx1) (by rw [gCat_vR hv1]; exact Nat.le_refl 1) (gRm.le (g3.tr (g4.tr (g5.tr g6))) hm) fun ws2 tys2 H2 locs2 w2 hS2 hx2 hv2 => ?_
  refine K3 ws2 tys2 H2 locs2 ls [w2, w1] hS2 (hL.ext (hx1.tr hx2)) (by rw [gCat_vI hv2, gCat_vR hv1]; exact Nat.le_refl 2) (gRm.le (g4.tr (g5.tr g6)) hm) fun ws3 tys3 H3 locs3 w3 hS3 hx3 hv3 => ?_
  refine K4 ws3 tys3 H3 locs3 ls [w3, w2, w1] hS3 (hL.ext (hx1.tr (hx2.tr hx3))) (by rw [gCat_vR hv3, gCat_vI hv2, gCat_vR hv1]; exact Nat.le_refl 3) (gRm.le (g5.tr g6) hm) fun ws4 tys4 H4 locs4 w4 hS4 hx4 hv4 => ?_
  refine K5 ws4 tys4 H4 locs4 ls [w4, w3, w2, w1] hS4 (hL.ext (hx1.tr (hx2.tr (hx3.tr hx4)))) (by rw [gCat_vI hv4, gCat_vR hv3, gCat_vI hv2, gCat_vR hv1]; exact Nat.le_refl 4) (gRm.le g6 hm) fun ws5 tys5 H5 locs5 w5 hS5 hx5 hv5 => ?_
  have hxx := hx1.tr (hx2.tr (hx3.tr (hx4.tr hx5)))
  have hv1' := gVr_ext (hx2.tr (hx3.tr (hx4.tr hx5))) hv1
  have hv3' := gVr_ext (hx4.tr hx5) hv3
  obtain ⟨D, adK, adV, A, ⟨p, l, e, R, s, m, args, below, meth, c, Q⟩, b, d⟩ := Γ
  obtain ⟨⟨hx, hb, hml, hown, hts⟩, hA, hfr, hlo, -⟩ := ok
  obtain ⟨hK, hP, hD, hSS, hR, hb1, hb2⟩ := id hS5
  obtain ⟨js, rfl, rfl⟩ := hv2
  obtain ⟨jd, rfl, rfl⟩ := hv4
  obtain ⟨jn, rfl, rfl⟩ := hv5
  obtain ⟨s1, s2⟩ := g_nat (j := js) rfl i1
  obtain ⟨d1, d2⟩ := g_nat (j := jd) rfl i2
  obtain ⟨n1, n2⟩ := g_nat (j := jn) rfl i3
  have es : ((js.toNatClampNeg : Nat) : Int) = js.toInt := by rw [s2]; exact Int.toNat_of_nonneg i1
  have ed : ((jd.toNatClampNeg : Nat) : Int) = jd.toInt := by rw [d2]; exact Int.toNat_of_nonneg i2
  have en : ((jn.toNatClampNeg : Nat) : Int) = jn.toInt := by rw [n2]; exact Int.toNat_of_nonneg i3
  obtain ⟨xa, cA, ta, hna, hta, ha'⟩ := gHR_arr hR hqa
  obtain ⟨xc, cC, tc, hnc, htc, hc'⟩ := gHR_arr hR hqc
  obtain ⟨xa', ea, rfl, hwa⟩ := hv1'
  obtain ⟨xc', ec, rfl, hwc⟩ := hv3'
  have hloc : 1 ≤ R.frames ∧ (([] : List Value).map fun v => v.category).sum + (nativeFrameWords "java/lang/System" "arraycopy" 5 + 11) ≤ R.locals := ⟨by omega, Nat.le_trans (Nat.le_of_ble_eq_true rfl : _ ≤ 64) (by omega)⟩
  rcases ht with rfl | rfl
  · rcases ha' with ⟨h7, -⟩ | ⟨-, fa, h7, h8⟩
    · cases h7
    rcases hc' with ⟨h9, -⟩ | ⟨-, fc, h9, h10⟩
    · cases h9
    rw [h7] at hwa; cases hwa
    rw [h9] at hwc; cases hwc
    refine va_copyi hx hb (hml.trans hL.1.symm) hown (hts _ hl) (hts _ hn) (hts _ hs) (hts _ hi) hK hP hD hSS qa qc ta tc h7 h9 hta htc rfl s1 d1 n1 (by omega) (by omega) (fun _ _ => rfl) hloc.1 hloc.2 hd fun H6 locs6 hP6 hD6 hS6 => ?_
    refine kk _ tys5 H6 locs6 ls ⟨hK, hP6, hD6, hS6, gHR_set hR h9 (by rfl) ⟨hnc, cC, ⟨tc, htc⟩, Or.inr ⟨by decide, _, rfl, ?_⟩⟩, hb1, hb2⟩ (hxx.tr (gExt.set h9 (by rfl))) (hL.ext (hxx.tr (gExt.set h9 (by rfl))))
    rw [← es, ← ed, ← en]
    exact g_cpy h8 h10 (by omega)
  · rcases ha' with ⟨-, fa, h7, h8⟩ | ⟨h7, -⟩
    rotate_left
    · exact absurd rfl h7
    rcases hc' with ⟨-, fc, h9, h10⟩ | ⟨h9, -⟩
    rotate_left
    · exact absurd rfl h9
    rw [h7] at hwa; cases hwa
    rw [h9] at hwc; cases hwc
    refine va_copyl hx hb (hml.trans hL.1.symm) hown (hts _ hl) (hts _ hn) (hts _ hs) (hts _ hi) hK hP hD hSS qa qc ta tc h7 h9 hta htc rfl s1 d1 n1 (by omega) (by omega) (fun _ _ => rfl) hloc.1 hloc.2 hd fun H6 locs6 hP6 hD6 hS6 => ?_
    refine kk _ tys5 H6 locs6 ls ⟨hK, hP6, hD6, hS6, gHR_set hR h9 (by rfl) ⟨hnc, cC, ⟨tc, htc⟩, Or.inl ⟨rfl, _, rfl, ?_⟩⟩, hb1, hb2⟩ (hxx.tr (gExt.set h9 (by rfl))) (hL.ext (hxx.tr (gExt.set h9 (by rfl))))
    rw [← es, ← ed, ← en]
    exact g_cpyL h8 h10 (by omega)
end T3
-- methods
theorem gLay_cons (v : gAV) (r : List gAV) : gLay (v :: r) = (match v with
  | .inr (.inl z) => some (vL z) :: none :: gLay r
  | _ => some v :: gLay r) := by
  match v with
  | .inl z => rfl
  | .inr (.inl z) => rfl
  | .inr (.inr z) => rfl
theorem gLay_args {adK : Nat → Nat} {ws : va_W} : ∀ {as : List gAV} {vals : List Value} (h : gArgs adK ws vals as) (j : Nat), (lg_sl vals).length = (gLay as).length ∧ ∀ (i : Nat) (v : gAV), (gLay as)[i]? = some (some v) → ∃ w : Value, (j + i, w) ∈ lv_args j vals ∧ gVr adK ws w v := by
  intro as
  induction as with
  | nil =>
    intro vals h j
    have : vals = [] := List.length_eq_zero_iff.mp h.1
    subst this
    exact ⟨rfl, fun i v hv => by simp [gLay] at hv⟩
  | cons a as ih =>
    intro vals h j
    match vals, h with
    | [], h => exact absurd h.1 (by simp)
    | w :: vals, h =>
      have h2 : gArgs adK ws vals as := ⟨by have := h.1; simpa using this, fun k v hv => by
        obtain ⟨w', w1, w2⟩ := h.2 (k + 1) v (by simpa using hv)
        exact ⟨w', by simpa using w1, w2⟩⟩
      have hw : gVr adK ws w a := by
        obtain ⟨w', w1, w2⟩ := h.2 0 a rfl
        simp at w1
        subst w1
        exact w2
      by_cases hc : w.category = 2
      · obtain ⟨z, rfl⟩ := (gVr_cat hw).mp hc
        obtain ⟨l1, l2⟩ := ih h2 (j + 2)
        have e1 : lg_sl (w :: vals) = .val w :: .second :: lg_sl vals := by simp [lg_sl, hc]
        have e2 : lv_args j (w :: vals) = (j, w) :: lv_args (j + 2) vals := by simp [lv_args, hc]
        rw [e1, e2, gLay_cons]
        refine ⟨by simp [l1], fun i v hv => ?_⟩
        match i, hv with
        | 0, hv => simp at hv; subst hv; exact ⟨w, by simp, hw⟩
        | 1, hv => simp at hv
        | i + 2, hv =>
          obtain ⟨w', w1, w2⟩ := l2 i v (by simpa using hv)
          exact ⟨w', List.mem_cons_of_mem _ (by rw [show j + (i + 2) = j + 2 + i by omega]; exact w1), w2⟩
      · obtain ⟨l1, l2⟩ := ih h2 (j + 1)
        have e1 : lg_sl (w :: vals) = .val w :: lg_sl vals := by simp [lg_sl, hc]
        have e2 : lv_args j (w :: vals) = (j, w) :: lv_args (j + 1) vals := by simp [lv_args, hc]
        have e3 : gLay (a :: as) = some a :: gLay as := by
          rw [gLay_cons]
          match a, hw with
          | .inl z, hw => rfl
          | .inr (.inl z), hw => exact absurd ((gVr_cat hw).mpr ⟨z, rfl⟩) hc
          | .inr (.inr z), hw => rfl
        rw [e1, e2, e3]
        refine ⟨by simp [l1], fun i v hv => ?_⟩
        match i, hv with
        | 0, hv => simp at hv; subst hv; exact ⟨w, by simp, hw⟩
        | i + 1, hv =>
          obtain ⟨w', w1, w2⟩ := l2 i v (by simpa using hv)
          exact ⟨w', List.mem_cons_of_mem _ (by rw [show j + (i + 1) = j + 1 + i by omega]; exact w1), w2⟩
/-- an answer of a method's type -/
def gRtB (ret : Option FieldType) (v : Option gAV) : Bool := match ret, v with
  | none, none => true
  | some .int, some (.inl _) => true
  | some .boolean, some (.inl z) => z == 0 || z == 1
  | some .long, some (.inr (.inl _)) => true
  | some (.object _), some (.inr (.inr (.inl _))) => true
  | some (.array _), some (.inr (.inr (.inl _))) => true
  | _, _ => false
/-- a method's run: locals, its answer's type, its body -/
def gRn (nL : Nat) (ret : Option FieldType) (body : gSt) (n : Nat) (as : List gAV) (h : gH) : Option (Option gAV × gH) := if (gLay as).length ≤ nL then match body n (gEnt nL as) h with
  | some (some (3, v), _, h') => if gRtB ret v = true ∧ h.1.1 ≤ h'.1.1 ∧ h.1.2.1 ≤ h'.1.2.1 ∧ h.1.2.2 ≤ h'.1.2.2 then some (v, h') else none
  | _ => none
  else none
theorem gMet_of {l : Launch} {D : va_G} {adK adV : Nat → Nat} {d : Nat} {C : gOrc} {mi : gMi} {ini : Bool} {body : gSt} {n pN : Nat} {as : List gAV} {h h' : gH} {r : Option gAV} (hC : gOrcOK l D adK adV d C) (hpl : plainName mi.1.cls = true) (hin : ini = true → mi.1.name = "<init>") (hbody : gT (mi.2.1, mi.1.cls, mi.2.2.1, ini) C 0 pN 0 0 body) (hr0 : gRn mi.2.2.1 mi.2.2.2.1 body n as h = some (r, h')) : gLe h h' ∧ gMet l D adK adV (d + 1) mi as h r h' := by
  unfold gRn at hr0
  split at hr0
  rotate_left
  · cases hr0
  rename_i hlay
  split at hr0
  rotate_left
  · cases hr0
  rename_i v L' h2 hrun
  split at hr0
  rotate_left
  · cases hr0
  rename_i hrt
  cases hr0
  have hle : gLe h h' := hrt.2
  replace hrt := hrt.1
  refine ⟨hle, fun ws tys sz vals hR hA0 => ?_⟩
  refine Met.ofW (cc := mi.2.1) (maxL := mi.2.2.1) (ret := mi.2.2.2.1) hpl rfl ?_
  intro p e s m args below meth c s₁ B hml hv
  obtain ⟨rfl, hsz, hP, hK, hD0, hE⟩ := hv
  have hx := B.exec
  have hb := B.bytes
  have hr := B.returns
  have hts0 := atoms_spec (ws := Cond.code mi.1 mi.2.1 mi.2.2.1 mi.2.2.2.1 :: gTw) B.pre
  have hts : ∀ w ∈ gTw, w.before vals.toArray s = true := fun w hw => hts0 w (List.mem_cons_of_mem _ hw)
  have hown : s.vm.findClass mi.1.cls = some m.cls := findClass_of_methodNamed B.named
  have hlocks := B.notSynchronized
  have hnm : meth.name = mi.1.name := (name_of_methodNamed B.named B.method).1
  subst hsz
  have hD := hD0.self (sz := s.heap.size)
  have hA : ∀ q : Nat, s.heap.size ≤ q → va_A ws s.heap.size q := fun q h => Or.inr h
  obtain ⟨l1, l2⟩ := gLay_args hA0 0
  have hl := lv_entry vals (n := mi.2.2.1) (by rw [l1]; exact hlay)
  rw [lg_entry_eq]
  generalize (lg_sl vals ++ List.replicate (mi.2.2.1 - (lg_sl vals).length) Slot.unset).toArray = ls at hl ⊢
  have ok : gOK (mi.2.1, mi.1.cls, mi.2.2.1, ini) C (D, adK, adV, va_A ws s.heap.size, (p, l, e, gRoom (d + 1) (h'.1.2.1 - h.1.2.1) (h'.1.2.2 - h.1.2.2), s, m, vals.toArray, below, meth, c, MQ below (gQc D adK ws s.heap.size r h') vals.toArray s (h'.1.2.1 - h.1.2.1) (h'.1.2.2 - h.1.2.2) (va_A ws s.heap.size)), (h.1.2.1, h.1.2.2), d) :=
    ⟨⟨hx, hb, hml, hown, hts⟩, hA, Nat.le_refl _, Nat.le_refl _, hE, hC, fun hi => by rw [hnm]; exact hin hi⟩
  obtain ⟨-, K⟩ := hbody _ ok n _ h _ L' h' hrun
  have hS : va_S (va_A ws s.heap.size) s.heap s.heap [] := va_S.rf
  have hL : gLR (D, adK, adV, va_A ws s.heap.size, (p, l, e, gRoom (d + 1) (h'.1.2.1 - h.1.2.1) (h'.1.2.2 - h.1.2.2), s, m, vals.toArray, below, meth, c, MQ below (gQc D adK ws s.heap.size r h') vals.toArray s (h'.1.2.1 - h.1.2.1) (h'.1.2.2 - h.1.2.2) (va_A ws s.heap.size)), (h.1.2.1, h.1.2.2), d) mi.2.2.1 ws ls (gEnt mi.2.2.1 as) := by
    refine ⟨hl.1, hl.2.1, fun i u hu => ?_⟩
    unfold gEnt at hu
    by_cases hi : i < (gLay as).length
    · rw [List.getElem?_append_left hi] at hu
      obtain ⟨w, w1, w2⟩ := l2 i u hu
      rw [Nat.zero_add] at w1
      exact ⟨w, hl.2.2 _ w1, w2⟩
    · rw [List.getElem?_append_right (by omega), List.getElem?_replicate] at hu
      split at hu <;> cases hu
  have fin := K ws tys s.heap [] ls ⟨hK, hP, hD, hS, hR, Nat.le_refl _, Nat.le_refl _⟩ hL ⟨Nat.le_refl _, Nat.le_refl _⟩ fun ws' tys' H' locs' ls' hS' hx' hL' => ?_
  · simp only [gW, Nat.sub_self] at fin
    exact fin
  intro w pc ls1 hret hdec
  obtain ⟨hK', hP', hD', hSS', hR', -, -⟩ := hS'
  have hq : ∀ t : State, t.heap = H' → s.WarmedH t.vm → gQc D adK ws s.heap.size r h' vals.toArray s (.returned w) t := fun t ht hW => ⟨⟨w, ws', tys', rfl, hret, by rw [ht]; exact hP', va_K.moved hW.alike hK', hD', hR', hx'⟩, hSS'.F ht⟩
  match hm : mi.2.2.2.1, r, hrt, hret, hdec, hq with
  | none, none, hrt, hret, hdec, hq =>
    have hw : w = none := hret
    subst hw
    rw [hm] at hr
    exact W.vret hx hb hr hq hSS'.2.2 hdec
  | some .int, some (.inl z), hrt, hret, hdec, hq =>
    obtain ⟨x, rfl, i, rfl, hi⟩ := hret
    rw [hm] at hr
    exact W.zret hx hb hr rfl hq hSS'.2.2 hdec
  | some .boolean, some (.inl z), hrt, hret, hdec, hq =>
    obtain ⟨x, rfl, i, rfl, hi⟩ := hret
    rw [hm] at hr
    refine W.zret hx hb hr ?_ hq hSS'.2.2 hdec
    have hz : z = 0 ∨ z = 1 := by simpa [gRtB] using hrt
    rcases hz with rfl | rfl
    · have e : i = 0 := Int32.toInt_inj.mp hi
      subst e; rfl
    · have e : i = 1 := Int32.toInt_inj.mp hi
      subst e; rfl
  | some .long, some (.inr (.inl z)), hrt, hret, hdec, hq =>
    obtain ⟨x, rfl, i, rfl, hi⟩ := hret
    rw [hm] at hr
    exact W.lret hx hb hr hq hSS'.2.2 hdec
  | some (.object Cn), some (.inr (.inr (.inl z))), hrt, hret, hdec, hq =>
    obtain ⟨x, rfl, hx9⟩ := hret
    rw [hm] at hr
    refine W.aret hx hb hr (Or.inl ⟨_, rfl⟩) ?_ hq hSS'.2.2 hdec
    match z, hx9 with
    | none, hx9 => exact Or.inl hx9
    | some y, hx9 => obtain ⟨y', e9, rfl, -⟩ := hx9; exact Or.inr ⟨_, rfl⟩
  | some (.array Cn), some (.inr (.inr (.inl z))), hrt, hret, hdec, hq =>
    obtain ⟨x, rfl, hx9⟩ := hret
    rw [hm] at hr
    refine W.aret hx hb hr (Or.inr ⟨_, rfl⟩) ?_ hq hSS'.2.2 hdec
    match z, hx9 with
    | none, hx9 => exact Or.inl hx9
    | some y, hx9 => obtain ⟨y', e9, rfl, -⟩ := hx9; exact Or.inr ⟨_, rfl⟩
