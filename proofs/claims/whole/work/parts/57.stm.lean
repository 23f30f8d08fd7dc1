/-! RULES OVER THE FLAT MEMORY: statements, loops, methods -/
section WWR
variable {L : gLo} {c : cT} {V : Mem} {n : Nat} {x y z : Int} {Q : gEx → gLo → cT → Mem → Prop}
theorem WW_mono {s : gSt} {Q' : gEx → gLo → cT → Mem → Prop} (hw : WW s n L c V Q') (hq : ∀ ex L' c' V', Q' ex L' c' V' → Q ex L' c' V') : WW s n L c V Q := fun h H => by
  obtain ⟨ex, L', h', c', V', e, H', l, q⟩ := hw h H
  exact ⟨ex, L', h', c', V', e, H', l, hq _ _ _ _ q⟩
theorem WW_sk (hq : Q none L c V) : WW skS n L c V Q := fun h H => ⟨_, _, h, c, V, rfl, H, gLe.rf, hq⟩
theorem WW_br (hq : Q (some (1, none)) L c V) : WW brS n L c V Q := fun h H => ⟨_, _, h, c, V, rfl, H, gLe.rf, hq⟩
theorem WW_cn (hq : Q (some (2, none)) L c V) : WW cnS n L c V Q := fun h H => ⟨_, _, h, c, V, rfl, H, gLe.rf, hq⟩
theorem WW_rtV (hq : Q (some (3, none)) L c V) : WW rtV n L c V Q := fun h H => ⟨_, _, h, c, V, rfl, H, gLe.rf, hq⟩
def SQ (b : gSt) (n : Nat) (Q : gEx → gLo → cT → Mem → Prop) : gEx → gLo → cT → Mem → Prop
  | none, L, c, V => WW b n L c V Q
  | some e, L, c, V => Q (some e) L c V
theorem SQ_n {b : gSt} (h : WW b n L c V Q) : SQ b n Q none L c V := h
theorem SQ_s {b : gSt} {e : Nat × Option gAV} (h : Q (some e) L c V) : SQ b n Q (some e) L c V := h
theorem WW_se {a b : gSt} (hw : WW a n L c V (SQ b n Q)) : WW (seS a b) n L c V Q := fun h H => by
  obtain ⟨ex, L', h', c', V', e, H', l, q⟩ := hw h H
  cases ex with
  | none =>
    obtain ⟨ex2, L2, h2, c2, V2, e2, H2, l2, q2⟩ := (show WW b n L' c' V' Q from q) h' H'
    exact ⟨ex2, L2, h2, c2, V2, by simp only [seS, e, Option.bind_some, e2], H2, l.tr l2, q2⟩
  | some x => exact ⟨some x, L', h', c', V', by simp only [seS, e, Option.bind_some], H', l, q⟩
theorem WW_ifE {e : gCE} {a b : gSt} (hc : EE e L c V (fun x c' V' => (x = true → WW a n L c' V' Q) ∧ (x = false → WW b n L c' V' Q))) : WW (ifS e a b) n L c V Q := fun h H => by
  obtain ⟨x, h1, c1, V1, e1, H1, l1, q1, q2⟩ := hc h H
  cases x with
  | true =>
    obtain ⟨ex2, L2, h2, c2, V2, e2, H2, l2, q⟩ := q1 rfl h1 H1
    exact ⟨ex2, L2, h2, c2, V2, by simp [ifS, e1, e2], H2, l1.tr l2, q⟩
  | false =>
    obtain ⟨ex2, L2, h2, c2, V2, e2, H2, l2, q⟩ := q2 rfl h1 H1
    exact ⟨ex2, L2, h2, c2, V2, by simp [ifS, e1, e2], H2, l1.tr l2, q⟩
theorem WW_if {e : gCE} {a b : gSt} {t : Bool} (hc : PE e L c V t) (h1 : t = true → WW a n L c V Q) (h2 : t = false → WW b n L c V Q) : WW (ifS e a b) n L c V Q := WW_ifE (EE_pe hc ⟨h1, h2⟩)
theorem WW_stE {i : Nat} {e : gIE} (he : EE e L c V (fun x c' V' => Q none (gSet i (vI x) L) c' V')) : WW (stI i e) n L c V Q := fun h H => by
  obtain ⟨x, h1, c1, V1, e1, H1, l1, q⟩ := he h H
  exact ⟨_, _, h1, c1, V1, by simp only [stI, e1, Option.bind_some], H1, l1, q⟩
theorem WW_st {i : Nat} {e : gIE} (he : PE e L c V x) (q : Q none (gSet i (vI x) L) c V) : WW (stI i e) n L c V Q := WW_stE (EE_pe he q)
theorem WW_stBE {i : Nat} {e : gCE} (he : EE e L c V (fun b c' V' => Q none (gSet i (vB b) L) c' V')) : WW (stB i e) n L c V Q := WW_stE (EE_bI he)
theorem WW_stB {i : Nat} {e : gCE} {b : Bool} (he : PE e L c V b) (q : Q none (gSet i (vB b) L) c V) : WW (stB i e) n L c V Q := WW_stE (EE_pe (PE_bI he) q)
theorem WW_stL {i : Nat} {e : gIE} (he : PE e L c V x) (q : Q none (gSet2 i (vL x) L) c V) : WW (stL i e) n L c V Q := fun h H => by
  obtain ⟨h1, e1, H1⟩ := he h H
  exact ⟨_, _, h1, c, V, by simp only [stL, e1, Option.bind_some], H1, mH_le H H1, q⟩
theorem WW_stLE {i : Nat} {e : gIE} (he : EE e L c V (fun x c' V' => Q none (gSet2 i (vL x) L) c' V')) : WW (stL i e) n L c V Q := fun h H => by
  obtain ⟨x, h1, c1, V1, e1, H1, l1, q⟩ := he h H
  exact ⟨_, _, h1, c1, V1, by simp only [stL, e1, Option.bind_some], H1, l1, q⟩
theorem WW_stRE {i : Nat} {e : gRE} (he : EE e L c V (fun x c' V' => Q none (gSet i (vR x) L) c' V')) : WW (stR i e) n L c V Q := fun h H => by
  obtain ⟨x, h1, c1, V1, e1, H1, l1, q⟩ := he h H
  exact ⟨_, _, h1, c1, V1, by simp only [stR, e1, Option.bind_some], H1, l1, q⟩
theorem WW_stR {i : Nat} {e : gRE} {r : Option Nat} (he : PE e L c V r) (q : Q none (gSet i (vR r) L) c V) : WW (stR i e) n L c V Q := WW_stRE (EE_pe he q)
theorem WW_in {i : Nat} {k : Int} (hz : L[i]? = some (some (vI z))) (hq : Q none (gSet i (vI (zAdd z k)) L) c V) : WW (inS i k) n L c V Q := fun h H => ⟨_, _, h, c, V, by simp only [inS, hz], H, gLe.rf, hq⟩
theorem WW_rtE {e : gIE} (he : EE e L c V (fun x c' V' => Q (some (3, some (vI x))) L c' V')) : WW (rtI e) n L c V Q := fun h H => by
  obtain ⟨x, h1, c1, V1, e1, H1, l1, q⟩ := he h H
  exact ⟨_, _, h1, c1, V1, by simp only [rtI, e1, Option.bind_some], H1, l1, q⟩
theorem WW_rt {e : gIE} (he : PE e L c V x) (q : Q (some (3, some (vI x))) L c V) : WW (rtI e) n L c V Q := WW_rtE (EE_pe he q)
theorem WW_rtBE {e : gCE} (he : EE e L c V (fun x c' V' => Q (some (3, some (vB x))) L c' V')) : WW (rtB e) n L c V Q := fun h H => by
  obtain ⟨x, h1, c1, V1, e1, H1, l1, q⟩ := he h H
  exact ⟨_, _, h1, c1, V1, by simp only [rtB, e1, Option.bind_some], H1, l1, q⟩
theorem WW_rtB {e : gCE} {b : Bool} (he : PE e L c V b) (q : Q (some (3, some (vB b))) L c V) : WW (rtB e) n L c V Q := WW_rtBE (EE_pe he q)
theorem WW_rtLE {e : gIE} (he : EE e L c V (fun x c' V' => Q (some (3, some (vL x))) L c' V')) : WW (rtL e) n L c V Q := fun h H => by
  obtain ⟨x, h1, c1, V1, e1, H1, l1, q⟩ := he h H
  exact ⟨_, _, h1, c1, V1, by simp only [rtL, e1, Option.bind_some], H1, l1, q⟩
theorem WW_rtL {e : gIE} (he : PE e L c V x) (q : Q (some (3, some (vL x))) L c V) : WW (rtL e) n L c V Q := WW_rtLE (EE_pe he q)
theorem WW_rtRE {e : gRE} (he : EE e L c V (fun x c' V' => Q (some (3, some (vR x))) L c' V')) : WW (rtR e) n L c V Q := fun h H => by
  obtain ⟨x, h1, c1, V1, e1, H1, l1, q⟩ := he h H
  exact ⟨_, _, h1, c1, V1, by simp only [rtR, e1, Option.bind_some], H1, l1, q⟩
theorem WW_rtR {e : gRE} {r : Option Nat} (he : PE e L c V r) (q : Q (some (3, some (vR r))) L c V) : WW (rtR e) n L c V Q := WW_rtRE (EE_pe he q)
theorem WW_dp {α : Type} {e : gLo → gH → Option (α × gH)} (he : EE e L c V (fun _ c' V' => Q none L c' V')) : WW (dpI e) n L c V Q := fun h H => by
  obtain ⟨x, h1, c1, V1, e1, H1, l1, q⟩ := he h H
  exact ⟨_, _, h1, c1, V1, by simp only [dpI, e1, Option.bind_some], H1, l1, q⟩
theorem WW_cV {d D m : Nat} {r : gAE} {vs : List gAV} {n' : Nat} (hr : PE r L c V vs) (hn : nB ≤ n') (hp : CC D m vs c V (fun r c' V' => r = none ∧ Q none L c' V')) (hd : D ≤ d) : WW (cV (gOr n' d) m r) n L c V Q := fun h H => by
  obtain ⟨h1, e1, H1⟩ := hr h H
  obtain ⟨_, h2, c2, V2, e2, H2, l2, rfl, q⟩ := hp n' d h1 hn hd H1
  exact ⟨_, _, h2, c2, V2, by simp only [cV, e1, Option.bind_some, e2], H2, (mH_le H H1).tr l2, q⟩
theorem ex_V {Q : cT → Mem → Prop} (q : Q c V) : (none : Option gAV) = none ∧ Q c V := ⟨rfl, q⟩
variable {a ci k p N : Nat} {o : gRE}
theorem WW_pfE {e : gIE} (hk : (tab ci)[k]? = some (0, p, N)) (ho : PE o L c V (some a)) (he : EE e L c V (fun x c' V' => mcl c'.1 a = some ci ∧ Q none L c' (sM V' a k (fun _ => x)))) : WW (pfI ci k o e) n L c V Q := fun h H => by
  obtain ⟨h1, e1, H1⟩ := ho h H
  obtain ⟨x, h2, c2, V2, e2, H2, l2, hc, q⟩ := he h1 H1
  obtain ⟨h3, e3, H3⟩ := mH_putF H2 hc hk rfl (fun _ => x) (v := vI x) rfl
  exact ⟨_, _, h3, c2, _, by simp only [pfI, e1, e2, Option.bind_some, e3], H3, ((mH_le H H1).tr l2).tr (mH_le H2 H3), q⟩
theorem WW_pf {e : gIE} (hk : (tab ci)[k]? = some (0, p, N)) (ho : PE o L c V (some a)) (hc : mcl c.1 a = some ci) (he : PE e L c V x) (q : Q none L c (sM V a k (fun _ => x))) : WW (pfI ci k o e) n L c V Q := WW_pfE hk ho (EE_pe he ⟨hc, q⟩)
theorem WW_pfBE {e : gCE} (hk : (tab ci)[k]? = some (0, p, N)) (ho : PE o L c V (some a)) (he : EE e L c V (fun x c' V' => mcl c'.1 a = some ci ∧ Q none L c' (sM V' a k (fun _ => if x = true then 1 else 0)))) : WW (pfB ci k o e) n L c V Q := fun h H => by
  obtain ⟨h1, e1, H1⟩ := ho h H
  obtain ⟨x, h2, c2, V2, e2, H2, l2, hc, q⟩ := he h1 H1
  obtain ⟨h3, e3, H3⟩ := mH_putF H2 hc hk rfl (fun _ => if x = true then 1 else 0) (v := vB x) rfl
  exact ⟨_, _, h3, c2, _, by simp only [pfB, e1, e2, Option.bind_some, e3], H3, ((mH_le H H1).tr l2).tr (mH_le H2 H3), q⟩
theorem WW_pfB {e : gCE} {b : Bool} (hk : (tab ci)[k]? = some (0, p, N)) (ho : PE o L c V (some a)) (hc : mcl c.1 a = some ci) (he : PE e L c V b) (q : Q none L c (sM V a k (fun _ => if b = true then 1 else 0))) : WW (pfB ci k o e) n L c V Q := WW_pfBE hk ho (EE_pe he ⟨hc, q⟩)
theorem WW_pfL {e : gIE} (hk : (tab ci)[k]? = some (1, p, N)) (ho : PE o L c V (some a)) (hc : mcl c.1 a = some ci) (he : PE e L c V x) (q : Q none L c (sM V a k (fun _ => x))) : WW (pfL ci k o e) n L c V Q := fun h H => by
  obtain ⟨h1, e1, H1⟩ := ho h H
  obtain ⟨h2, e2, H2⟩ := he h1 H1
  obtain ⟨h3, e3, H3⟩ := mH_putF H2 hc hk rfl (fun _ => x) (v := vL x) rfl
  exact ⟨_, _, h3, c, _, by simp only [pfL, e1, e2, Option.bind_some, e3], H3, mH_le H H3, q⟩
theorem WW_pfP {e : gRE} {g : Nat} (hk : (tab ci)[k]? = some (9, p, N)) (ho : PE o L c V (some a)) (hc : mcl c.1 a = some ci) (he : PE e L c V (some g)) (q : Q none L c (sM V a k (fun _ => (g : Int)))) : WW (pfR ci k o e) n L c V Q := fun h H => by
  obtain ⟨h1, e1, H1⟩ := ho h H
  obtain ⟨h2, e2, H2⟩ := he h1 H1
  obtain ⟨h3, e3, H3⟩ := mH_putF H2 hc hk rfl (fun _ => (g : Int)) (v := vR (some g)) (by show vR (some g) = vR (rf (g : Int)); rw [rf_nat])
  exact ⟨_, _, h3, c, _, by simp only [pfR, e1, e2, Option.bind_some, e3], H3, mH_le H H3, q⟩
theorem WW_pu {f : Int → Int → Int} {e : gIE} (hk : (tab ci)[k]? = some (0, p, N)) (ho : PE o L c V (some a)) (hc : mcl c.1 a = some ci) (he : PE e L c V x) (q : Q none L c (sM V a k (fun _ => f (V a k 0) x))) : WW (puI ci k f o e) n L c V Q := fun h H => by
  obtain ⟨h1, e1, H1⟩ := ho h H
  obtain ⟨h2, e2, H2⟩ := he h1 H1
  obtain ⟨h3, e3, H3⟩ := mH_putF H2 hc hk rfl (fun _ => f (V a k 0) x) (v := vI (f (V a k 0) x)) rfl
  have e4 := mH_fld H1 hc hk
  have e5 : mVal a (0, p, N) (V a k) = vI (V a k 0) := rfl
  rw [e5] at e4
  exact ⟨_, _, h3, c, _, by simp only [puI, e1, e4, e2, Option.bind_some, e3], H3, mH_le H H3, q⟩
theorem WW_puL {f : Int → Int → Int} {e : gIE} (hk : (tab ci)[k]? = some (1, p, N)) (ho : PE o L c V (some a)) (hc : mcl c.1 a = some ci) (he : PE e L c V x) (q : Q none L c (sM V a k (fun _ => f (V a k 0) x))) : WW (puL ci k f o e) n L c V Q := fun h H => by
  obtain ⟨h1, e1, H1⟩ := ho h H
  obtain ⟨h2, e2, H2⟩ := he h1 H1
  obtain ⟨h3, e3, H3⟩ := mH_putF H2 hc hk rfl (fun _ => f (V a k 0) x) (v := vL (f (V a k 0) x)) rfl
  have e4 := mH_fld H1 hc hk
  have e5 : mVal a (1, p, N) (V a k) = vL (V a k 0) := rfl
  rw [e5] at e4
  exact ⟨_, _, h3, c, _, by simp only [puL, e1, e4, e2, Option.bind_some, e3], H3, mH_le H H3, q⟩
theorem WW_puLp {f : Int → Int → Int} {e : gIE} (hk : (tab ci)[k]? = some (1, p, N)) (ho : PE o L c V (some a)) (hc : mcl c.1 a = some ci) (he : PE e L c V x) (h0 : x ≠ 0) (q : Q none L c (sM V a k (fun _ => f (V a k 0) x))) : WW (puLp ci k f o e) n L c V Q := fun h H => by
  obtain ⟨h1, e1, H1⟩ := ho h H
  obtain ⟨h2, e2, H2⟩ := he h1 H1
  obtain ⟨h3, e3, H3⟩ := mH_putF H2 hc hk rfl (fun _ => f (V a k 0) x) (v := vL (f (V a k 0) x)) rfl
  have e4 := mH_fld H1 hc hk
  have e5 : mVal a (1, p, N) (V a k) = vL (V a k 0) := rfl
  rw [e5] at e4
  exact ⟨_, _, h3, c, _, by simp only [puLp, e1, e4, e2, Option.bind_some, if_neg h0, e3], H3, mH_le H H3, q⟩
theorem WW_asE {ty : Nat} {r : gRE} {i e : gIE} (hr : PE r L c V (some (a + p))) (hi : PE i L c V x) (he : EE e L c V (fun y c' V' => mcl c'.1 a = some ci ∧ ∃ z, gNar ty y = some z ∧ Q none L c' (sM V' a k (gUz (V' a k) x z)))) (hk : (tab ci)[k]? = some (ty + 2, p, N)) (hty : ty < 4) (h0 : 0 ≤ x) (hx : x < N) : WW (asI ty r i e) n L c V Q := fun h H => by
  obtain ⟨h1, e1, H1⟩ := hr h H
  obtain ⟨h2, e2, H2⟩ := hi h1 H1
  obtain ⟨y, h3, c3, V3, e3, H3, l3, hc, z, hz, q⟩ := he h2 H2
  obtain ⟨g, g1, g2⟩ := mH_arr H3 hc hk hty
  have H4 := mH_putA H3 hc hk hty (gUz (V3 a k) x z) (gUz g x z) (fun i i0 i1 => by
    simp only [gUz]
    split
    · rfl
    · exact g2 i i0 i1)
  refine ⟨_, _, _, c3, _, ?_, H4, ((mH_le H H2).tr l3).tr (mH_le H3 H4), q⟩
  simp only [asI, e1, e2, e3, Option.bind_some, gEs, g1]
  rw [if_pos ⟨trivial, h0, hx⟩, hz]
  rfl
theorem WW_as {ty : Nat} {r : gRE} {i e : gIE} (hr : PE r L c V (some (a + p))) (hc : mcl c.1 a = some ci) (hk : (tab ci)[k]? = some (ty + 2, p, N)) (hty : ty < 4) (hi : PE i L c V x) (h0 : 0 ≤ x) (hx : x < N) (he : PE e L c V y) (hz : gNar ty y = some z) (q : Q none L c (sM V a k (gUz (V a k) x z))) : WW (asI ty r i e) n L c V Q := WW_asE hr hi (EE_pe he ⟨hc, z, hz, q⟩) hk hty h0 hx
/-- a place of an own array of numbers is written -/
theorem WW_asF {ty : Nat} {i e : gIE} (hk : (tab ci)[k]? = some (ty + 2, p, N)) (hty : ty < 4) (ho : PE o L c V (some a)) (hc : mcl c.1 a = some ci) (hi : PE i L c V x) (h0 : 0 ≤ x) (hx : x < N) (he : PE e L c V y) (hz : gNar ty y = some z) (q : Q none L c (sM V a k (gUz (V a k) x z))) : WW (asI ty (fR ci k o) i e) n L c V Q := WW_as (PE_fA hk hty ho hc) hc hk hty hi h0 hx he hz q
theorem WW_asFE {ty : Nat} {i e : gIE} (hk : (tab ci)[k]? = some (ty + 2, p, N)) (hty : ty < 4) (ho : PE o L c V (some a)) (hc : mcl c.1 a = some ci) (hi : PE i L c V x) (h0 : 0 ≤ x) (hx : x < N) (he : EE e L c V (fun y c' V' => mcl c'.1 a = some ci ∧ ∃ z, gNar ty y = some z ∧ Q none L c' (sM V' a k (gUz (V' a k) x z)))) : WW (asI ty (fR ci k o) i e) n L c V Q := WW_asE (PE_fA hk hty ho hc) hi he hk hty h0 hx
theorem WW_asB {i : gIE} {e : gCE} {b : Bool} (hk : (tab ci)[k]? = some (5, p, N)) (ho : PE o L c V (some a)) (hc : mcl c.1 a = some ci) (hi : PE i L c V x) (h0 : 0 ≤ x) (hx : x < N) (he : PE e L c V b) (q : Q none L c (sM V a k (gUz (V a k) x (if b = true then 1 else 0)))) : WW (asB (fR ci k o) i e) n L c V Q := WW_asF (ty := 3) hk (by decide) ho hc hi h0 hx (PE_bI he) (by cases b <;> rfl) q
theorem WW_au {ty : Nat} {f : Int → Int → Int} {i e : gIE} (hk : (tab ci)[k]? = some (ty + 2, p, N)) (hty : ty < 4) (ho : PE o L c V (some a)) (hc : mcl c.1 a = some ci) (hi : PE i L c V x) (h0 : 0 ≤ x) (hx : x < N) (he : PE e L c V y) (hz : gNar ty (f (V a k x) y) = some z) (q : Q none L c (sM V a k (gUz (V a k) x z))) : WW (auI ty f (fR ci k o) i e) n L c V Q := fun h H => by
  obtain ⟨h1, e1, H1⟩ := PE_fA hk hty ho hc h H
  obtain ⟨h2, e2, H2⟩ := hi h1 H1
  obtain ⟨h3, e3, H3⟩ := he h2 H2
  obtain ⟨g0, g3, g4⟩ := mH_arr H2 hc hk hty
  obtain ⟨g, g1, g2⟩ := mH_arr H3 hc hk hty
  have H4 := mH_putA H3 hc hk hty (gUz (V a k) x z) (gUz g x z) (fun i i0 i1 => by
    simp only [gUz]
    split
    · rfl
    · exact g2 i i0 i1)
  refine ⟨_, _, _, c, _, ?_, H4, mH_le H H4, q⟩
  simp only [auI, e1, e2, Option.bind_some, gEl, g3]
  rw [if_pos ⟨trivial, h0, hx⟩, g4 x h0 hx]
  simp only [Option.bind_some, e3, gEs, g1]
  rw [if_pos ⟨trivial, h0, hx⟩, hz]
  rfl
/-- System.arraycopy -/
theorem WW_cp {ty a2 c2 k2 p2 N2 : Nat} {r r2 : gRE} {sp dp nn : gIE} {w : Int} {f : Int → Int} (hr : PE r L c V (some (a + p))) (hc : mcl c.1 a = some ci) (hk : (tab ci)[k]? = some (ty + 2, p, N)) (hty : ty < 4) (hsp : PE sp L c V x) (hr2 : PE r2 L c V (some (a2 + p2))) (hc2 : mcl c.1 a2 = some c2) (hk2 : (tab c2)[k2]? = some (ty + 2, p2, N2)) (hdp : PE dp L c V y) (hn : PE nn L c V w)
    (hne : a + p ≠ a2 + p2) (hx : 0 ≤ x) (hy : 0 ≤ y) (hw : 0 ≤ w) (hxn : x + w ≤ N) (hyn : y + w ≤ N2) (hf : ∀ j : Int, 0 ≤ j → j < N2 → f j = gCpy (V a k) (V a2 k2) x y w j) (q : Q none L c (sM V a2 k2 f)) : WW (cpS ty r sp r2 dp nn) n L c V Q := fun h H => by
  obtain ⟨h1, e1, H1⟩ := hr h H
  obtain ⟨h2, e2, H2⟩ := hsp h1 H1
  obtain ⟨h3, e3, H3⟩ := hr2 h2 H2
  obtain ⟨h4, e4, H4⟩ := hdp h3 H3
  obtain ⟨h5, e5, H5⟩ := hn h4 H4
  obtain ⟨g, g1, g2⟩ := mH_arr H5 hc hk hty
  obtain ⟨g', g3, g4⟩ := mH_arr H5 hc2 hk2 hty
  have H6 := mH_putA H5 hc2 hk2 hty f (gCpy g g' x y w) (fun i i0 i1 => by
    rw [hf i i0 i1]
    unfold gCpy
    split
    · exact g2 _ (by omega) (by omega)
    · exact g4 i i0 i1)
  refine ⟨_, _, _, c, _, ?_, H6, mH_le H H6, q⟩
  simp only [cpS, e1, e2, e3, e4, e5, Option.bind_some, gAc, g1, g3]
  rw [if_pos ⟨trivial, trivial, hne, hx, hy, hw, hxn, hyn⟩]
  rfl
theorem WW_sw {e : gIE} {lo : Int} {cs : List gSt} {df : gSt} (he : PE e L c V x) (hs : WW (if lo ≤ x then cs.getD (x - lo).toNat df else df) n L c V (fun ex L' c' V' => match ex with
    | some (1, _) => Q none L' c' V'
    | ex => Q ex L' c' V')) : WW (swS e lo cs df) n L c V Q := fun h H => by
  obtain ⟨h1, e1, H1⟩ := he h H
  obtain ⟨ex, L', h', c', V', e2, H2, l2, q⟩ := hs h1 H1
  match ex, e2, q with
  | none, e2, q => exact ⟨_, _, h', c', V', by simp only [swS, e1, Option.bind_some, e2], H2, (mH_le H H1).tr l2, q⟩
  | some (0, v), e2, q => exact ⟨_, _, h', c', V', by simp only [swS, e1, Option.bind_some, e2], H2, (mH_le H H1).tr l2, q⟩
  | some (1, v), e2, q => exact ⟨_, _, h', c', V', by simp only [swS, e1, Option.bind_some, e2], H2, (mH_le H H1).tr l2, q⟩
  | some (k + 2, v), e2, q => exact ⟨_, _, h', c', V', by simp only [swS, e1, Option.bind_some, e2], H2, (mH_le H H1).tr l2, q⟩
end WWR
/-- what a round of a loop comes to: J, where it goes on -/
def LQ (J : gLo → cT → Mem → Prop) (Q : gEx → gLo → cT → Mem → Prop) : gEx → gLo → cT → Mem → Prop
  | none, L, c, V => J L c V
  | some e, L, c, V => if e.1 = 2 then J L c V else if e.1 = 1 then Q none L c V else Q (some e) L c V
section WWL
variable {Q : gEx → gLo → cT → Mem → Prop} {J : gLo → cT → Mem → Prop} {L : gLo} {c : cT} {V : Mem}
theorem LQ_n (h : J L c V) : LQ J Q none L c V := h
theorem LQ_c {v : Option gAV} (h : J L c V) : LQ J Q (some (2, v)) L c V := h
theorem LQ_b {v : Option gAV} (h : Q none L c V) : LQ J Q (some (1, v)) L c V := h
theorem LQ_r {v : Option gAV} (h : Q (some (3, v)) L c V) : LQ J Q (some (3, v)) L c V := h
theorem WW_wh {e : gCE} {b s : gSt} (N : Nat) (Inv : Nat → gLo → cT → Mem → Prop)
    (hstep : ∀ (m k : Nat) (L : gLo) (c : cT) (V : Mem), N ≤ k → Inv m L c V → EE e L c V (fun x c1 V1 => (x = true → WW b k L c1 V1 (LQ (fun L2 c2 V2 => WW s k L2 c2 V2 (fun ex3 L3 c3 V3 => ex3 = none ∧ ∃ m' : Nat, m' < m ∧ Inv m' L3 c3 V3)) Q)) ∧ (x = false → Q none L c1 V1))) :
    ∀ (m n : Nat) (L : gLo) (c : cT) (V : Mem), N + m < n → Inv m L c V → WW (whS e b s) n L c V Q := by
  intro m
  induction m using Nat.strongRecOn with
  | ind m ih =>
    intro n L c V hn hI h H
    match n, hn with
    | n + 1, hn =>
      obtain ⟨x, h1, c1, V1, e1, H1, l1, qt, qf⟩ := hstep m n L c V (by omega) hI h H
      cases x with
      | false => exact ⟨none, L, h1, c1, V1, by simp [whS, e1], H1, l1, qf rfl⟩
      | true =>
        obtain ⟨ex, L2, h2, c2, V2, e2, H2, l2, q2⟩ := qt rfl h1 H1
        have again : ∀ (ex0 : gEx), (∀ z, (b n L h1 = some (ex0, L2, h2) → (s n L2 h2).bind (fun z => match z.1 with
            | none => whS e b s n z.2.1 z.2.2
            | some _ => none) = some z → whS e b s (n + 1) L h = some z)) → b n L h1 = some (ex0, L2, h2) → WW s n L2 c2 V2 (fun ex3 L3 c3 V3 => ex3 = none ∧ ∃ m' : Nat, m' < m ∧ Inv m' L3 c3 V3) → ∃ (ex : gEx) (L' : gLo) (h' : gH) (c' : cT) (V' : Mem), whS e b s (n + 1) L h = some (ex, L', h') ∧ mH c' V' h' ∧ gLe h h' ∧ Q ex L' c' V' := by
          intro ex0 hgo hb hst
          obtain ⟨ex3, L3, h3, c3, V3, e3, H3, l3, rfl, m', hm', hI'⟩ := hst h2 H2
          obtain ⟨ex4, L4, h4, c4, V4, e4, H4, l4, q4⟩ := ih m' hm' n L3 c3 V3 (by omega) hI' h3 H3
          exact ⟨ex4, L4, h4, c4, V4, hgo _ hb (by simp only [e3, Option.bind_some, e4]), H4, ((l1.tr l2).tr l3).tr l4, q4⟩
        match ex, e2, q2 with
        | none, e2, q2 => exact again none (fun z hb hz => by simp only [whS, e1, Option.bind_some, if_true, hb]; exact hz) e2 q2
        | some (0, v), e2, q2 => exact ⟨_, _, h2, c2, V2, by simp only [whS, e1, Option.bind_some, if_true, e2], H2, l1.tr l2, q2⟩
        | some (1, v), e2, q2 => exact ⟨_, _, h2, c2, V2, by simp only [whS, e1, Option.bind_some, if_true, e2], H2, l1.tr l2, q2⟩
        | some (2, v), e2, q2 => exact again (some (2, v)) (fun z hb hz => by simp only [whS, e1, Option.bind_some, if_true, hb]; exact hz) e2 q2
        | some (k + 3, v), e2, q2 => exact ⟨_, _, h2, c2, V2, by simp only [whS, e1, Option.bind_some, if_true, e2], H2, l1.tr l2, q2⟩
theorem zAdd_id {x y : Int} (h1 : -2147483648 ≤ x + y) (h2 : x + y < 2147483648) : zAdd x y = x + y := by
  unfold zAdd wr
  exact Int.bmod_eq_of_le (by omega) (by omega)
theorem zSub_id {x y : Int} (h1 : -2147483648 ≤ x - y) (h2 : x - y < 2147483648) : zSub x y = x - y := by
  unfold zSub wr
  exact Int.bmod_eq_of_le (by omega) (by omega)
theorem zMul_id {x y : Int} (h1 : -2147483648 ≤ x * y) (h2 : x * y < 2147483648) : zMul x y = x * y := by
  unfold zMul wr
  exact Int.bmod_eq_of_le (by omega) (by omega)
/-- for (i = lo; i < B; i++) -/
theorem WW_for {i n : Nat} {bnd : gIE} {body : gSt} (N : Nat) (lo B : Int) (Inv : Int → gLo → cT → Mem → Prop) (hn : N + (B - lo).toNat + 1 < n) (hlo : -1000000 ≤ lo) (hlB : lo ≤ B) (hB : B ≤ 1000000) (h0 : Inv lo L c V)
    (hI : ∀ (j : Int) (L : gLo) (c : cT) (V : Mem), lo ≤ j → j ≤ B → Inv j L c V → L[i]? = some (some (vI j)) ∧ PE bnd L c V B)
    (hb : ∀ (j : Int) (k : Nat) (L : gLo) (c : cT) (V : Mem), lo ≤ j → j < B → N ≤ k → Inv j L c V → WW body k L c V (LQ (fun L' c' V' => L'[i]? = some (some (vI j)) ∧ Inv (j + 1) (gSet i (vI (j + 1)) L') c' V') Q))
    (hq : ∀ (L : gLo) (c : cT) (V : Mem), Inv B L c V → Q none L c V) : WW (whS (cmC .lt (lI i) bnd) body (inS i 1)) n L c V Q := by
  refine WW_wh N (fun m L c V => ∃ j : Int, lo ≤ j ∧ j ≤ B ∧ m = (B - j).toNat ∧ Inv j L c V) ?_ ((B - lo).toNat) n L c V (by omega) ⟨lo, by omega, hlB, rfl, h0⟩
  rintro m k L c V hk ⟨j, j0, j1, rfl, hj⟩
  obtain ⟨i1, i2⟩ := hI j L c V j0 j1 hj
  refine EE_pe (PE_cm (PE_lI i1) i2) ⟨fun hc => ?_, fun hc => ?_⟩
  · have hlt : j < B := of_decide_eq_true hc
    refine WW_mono (hb j k L c V j0 hlt hk hj) ?_
    intro ex L' c' V' q
    have fin : ∀ {L' : gLo} {c' : cT} {V' : Mem}, (L'[i]? = some (some (vI j)) ∧ Inv (j + 1) (gSet i (vI (j + 1)) L') c' V') → WW (inS i 1) k L' c' V' (fun ex3 L3 c3 V3 => ex3 = none ∧ ∃ m' : Nat, m' < (B - j).toNat ∧ ∃ j' : Int, lo ≤ j' ∧ j' ≤ B ∧ m' = (B - j').toNat ∧ Inv j' L3 c3 V3) := by
      intro L' c' V' q
      refine WW_in q.1 ⟨rfl, (B - (j + 1)).toNat, by omega, j + 1, by omega, by omega, rfl, ?_⟩
      rw [zAdd_id (by omega) (by omega)]
      exact q.2
    match ex, q with
    | none, q => exact fin q
    | some (0, v), q => exact q
    | some (1, v), q => exact q
    | some (2, v), q => exact fin q
    | some (k + 3, v), q =>
      have e1 : ¬ k + 3 = 2 := by omega
      have e2 : ¬ k + 3 = 1 := by omega
      simp only [LQ, if_neg e1, if_neg e2] at q ⊢
      exact q
  · have hge : ¬ j < B := of_decide_eq_false hc
    have : j = B := by omega
    subst this
    exact hq L c V hj
/-- a method's call, by its body -/
theorem CC_of {D m : Nat} {mi : gMi} {b : gOrc → gSt} {as : List gAV} {R : Option gAV → cT → Mem → Prop} (h1 : gMt[m]? = some mi) (h2 : ∀ C, (gBods C)[m]? = some (b C)) (h3 : m ≠ 305) (h4 : m ≠ 306) (hrc : ∀ h, mH c V h → gRcb mi.2.2.2.2 as h = true) (hl : (gLay as).length ≤ mi.2.2.1)
    (hw : ∀ n d, nB ≤ n → D ≤ d → WW (b (gOr n d)) n (gEnt mi.2.2.1 as) c V (fun ex _ c' V' => ∃ v, ex = some (3, v) ∧ gRtB mi.2.2.2.1 v = true ∧ R v c' V')) : CC (D + 1) m as c V R := by
  intro n d h hn hd H
  match d, hd with
  | d + 1, hd =>
    obtain ⟨ex, L', h', c', V', e, H', l, v, rfl, hv, hR⟩ := hw n d hn (by omega) h H
    refine ⟨v, h', c', V', ?_, H', l, hR⟩
    rw [gOr_eq h1 h2 h3 h4, if_pos (hrc h H), gRn, if_pos hl, e]
    exact if_pos ⟨hv, l⟩
theorem rcb_o {a ci : Nat} {as : List gAV} (hc : mcl c.1 a = some ci) : ∀ h, mH c V h → gRcb (some ci) (vR (some a) :: as) h = true := by
  intro h H
  obtain ⟨fs, h1, -⟩ := mH_ob H hc
  simp [gRcb, h1]
theorem rcb_s {as : List gAV} : ∀ h, mH c V h → gRcb none as h = true := fun _ _ => rfl
theorem PC_of {D m : Nat} {as : List gAV} {r : Option gAV} (h : CC D m as c V (fun r' c' V' => r' = r ∧ c' = c ∧ V' = V)) : PC D m as c V r := by
  intro n d h0 hn hd H
  obtain ⟨r', h', c', V', e, H', l, rfl, rfl, rfl⟩ := h n d h0 hn hd H
  exact ⟨h', e, H'⟩
theorem CC_pc {D m : Nat} {as : List gAV} {r : Option gAV} {R : Option gAV → cT → Mem → Prop} (h : PC D m as c V r) (q : R r c V) : CC D m as c V R := by
  intro n d h0 hn hd H
  obtain ⟨h', e, H'⟩ := h n d h0 hn hd H
  exact ⟨r, h', c, V, e, H', mH_le H H', q⟩
theorem CC_mono {D m : Nat} {as : List gAV} {R R' : Option gAV → cT → Mem → Prop} (h : CC D m as c V R') (q : ∀ r c' V', R' r c' V' → R r c' V') : CC D m as c V R := by
  intro n d h0 hn hd H
  obtain ⟨r, h', c', V', e, H', l, hr⟩ := h n d h0 hn hd H
  exact ⟨r, h', c', V', e, H', l, q _ _ _ hr⟩
theorem CC_le {D D' m : Nat} {as : List gAV} {R : Option gAV → cT → Mem → Prop} (h : CC D m as c V R) (hd : D ≤ D') : CC D' m as c V R := fun n d h0 hn hd' H => h n d h0 hn (by omega) H
theorem rtb_B {b : Bool} : gRtB (some FieldType.boolean) (some (vB b)) = true := by cases b <;> rfl
theorem PC_id {D m : Nat} {as : List gAV} {r : Option gAV} (h : PC D m as c V r) : PC D m as c V r := h
theorem CC_id {D m : Nat} {as : List gAV} {R : Option gAV → cT → Mem → Prop} (h : CC D m as c V R) : CC D m as c V R := h
end WWL
