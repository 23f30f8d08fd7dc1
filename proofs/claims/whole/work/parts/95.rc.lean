/-! RULES for arguments and fields that change the memory; THE INVARIANT: the class against the reference -/
section EEX
variable {L : gLo} {c : cT} {V : Mem} {n d D m : Nat} {r : gAE}
theorem EE_cIx {Q : Int → cT → Mem → Prop} (hn : nB ≤ n) (hr : EE r L c V (fun vs c1 V1 => CC D m vs c1 V1 (fun r c' V' => ∃ z, r = some (vI z) ∧ Q z c' V'))) (hd : D ≤ d) : EE (cI (gOr n d) m r) L c V Q := fun h H => by
  obtain ⟨vs, h1, c1, V1, e1, H1, l1, hp⟩ := hr h H
  obtain ⟨_, h2, c2, V2, e2, H2, l2, z, rfl, q⟩ := hp n d h1 hn hd H1
  exact ⟨z, h2, c2, V2, by simp only [cI, e1, Option.bind_some, e2], H2, l1.tr l2, q⟩
theorem EE_cBx {Q : Bool → cT → Mem → Prop} (hn : nB ≤ n) (hr : EE r L c V (fun vs c1 V1 => CC D m vs c1 V1 (fun r c' V' => ∃ z, r = some (vB z) ∧ Q z c' V'))) (hd : D ≤ d) : EE (cB (gOr n d) m r) L c V Q := fun h H => by
  obtain ⟨vs, h1, c1, V1, e1, H1, l1, hp⟩ := hr h H
  obtain ⟨_, h2, c2, V2, e2, H2, l2, z, rfl, q⟩ := hp n d h1 hn hd H1
  exact ⟨z, h2, c2, V2, by simp only [cB, cI, e1, Option.bind_some, e2, zB_vB], H2, l1.tr l2, q⟩
theorem WW_cVx {n' : Nat} {Q : gEx → gLo → cT → Mem → Prop} (hn : nB ≤ n') (hr : EE r L c V (fun vs c1 V1 => CC D m vs c1 V1 (fun r c' V' => r = none ∧ Q none L c' V'))) (hd : D ≤ d) : WW (cV (gOr n' d) m r) n L c V Q := fun h H => by
  obtain ⟨vs, h1, c1, V1, e1, H1, l1, hp⟩ := hr h H
  obtain ⟨_, h2, c2, V2, e2, H2, l2, rfl, q⟩ := hp n' d h1 hn hd H1
  exact ⟨_, _, h2, c2, V2, by simp only [cV, e1, Option.bind_some, e2], H2, l1.tr l2, q⟩
theorem EE_aCR {e : gRE} {Q : List gAV → cT → Mem → Prop} (he : EE e L c V (fun p c1 V1 => EE r L c1 V1 (fun vs c2 V2 => Q (vR p :: vs) c2 V2))) : EE (aCR e r) L c V Q := fun h H => by
  obtain ⟨x, h1, c1, V1, e1, H1, l1, q1⟩ := he h H
  obtain ⟨y, h2, c2, V2, e2, H2, l2, q⟩ := q1 h1 H1
  exact ⟨_, h2, c2, V2, by simp only [aCR, e1, e2, Option.bind_some], H2, l1.tr l2, q⟩
theorem EE_aCI {e : gIE} {Q : List gAV → cT → Mem → Prop} (he : EE e L c V (fun p c1 V1 => EE r L c1 V1 (fun vs c2 V2 => Q (vI p :: vs) c2 V2))) : EE (aCI e r) L c V Q := fun h H => by
  obtain ⟨x, h1, c1, V1, e1, H1, l1, q1⟩ := he h H
  obtain ⟨y, h2, c2, V2, e2, H2, l2, q⟩ := q1 h1 H1
  exact ⟨_, h2, c2, V2, by simp only [aCI, e1, e2, Option.bind_some], H2, l1.tr l2, q⟩
variable {ci k p N : Nat} {o : gRE}
theorem EE_fI {Q : Int → cT → Mem → Prop} (hk : (tab ci)[k]? = some (0, p, N)) (ho : EE o L c V (fun z c1 V1 => ∃ a, z = some a ∧ mcl c1.1 a = some ci ∧ Q (V1 a k 0) c1 V1)) : EE (fI ci k o) L c V Q := fun h H => by
  obtain ⟨_, h1, c1, V1, e1, H1, l1, a, rfl, hc, q⟩ := ho h H
  exact ⟨_, h1, c1, V1, by simp only [fI, e1, Option.bind_some, mH_fld H1 hc hk]; rfl, H1, l1, q⟩
theorem EE_fC {Q : Option Nat → cT → Mem → Prop} (hk : (tab ci)[k]? = some (10, p, N)) (ho : EE o L c V (fun z c1 V1 => ∃ a, z = some a ∧ mcl c1.1 a = some ci ∧ Q (some (a + p)) c1 V1)) : EE (fR ci k o) L c V Q := fun h H => by
  obtain ⟨_, h1, c1, V1, e1, H1, l1, a, rfl, hc, q⟩ := ho h H
  have e2 : mVal a (10, p, N) (V1 a k) = vR (some (a + p)) := rfl
  exact ⟨_, h1, c1, V1, by simp only [fR, e1, Option.bind_some, mH_fld H1 hc hk, e2], H1, l1, q⟩
theorem EE_aF {Q : Int → cT → Mem → Prop} {ty : Nat} {i : gIE} (hk : (tab ci)[k]? = some (ty + 2, p, N)) (hty : ty < 4) (ho : EE o L c V (fun z c1 V1 => ∃ a, z = some a ∧ mcl c1.1 a = some ci ∧ ∃ x, PE i L c1 V1 x ∧ 0 ≤ x ∧ x < N ∧ Q (V1 a k x) c1 V1)) : EE (aI ty (fR ci k o) i) L c V Q := fun h H => by
  obtain ⟨_, h1, c1, V1, e1, H1, l1, a, rfl, hc, x, hi, h0, hx, q⟩ := ho h H
  obtain ⟨h2, e2, H2⟩ := hi h1 H1
  obtain ⟨g, g1, g2⟩ := mH_arr H2 hc hk hty
  refine ⟨_, h2, c1, V1, ?_, H2, l1.tr (mH_le H1 H2), q⟩
  simp only [aI, fR, e1, Option.bind_some, mH_fld H1 hc hk, mVal_arr hty, e2, gEl, g1]
  rw [if_pos ⟨trivial, h0, hx⟩, g2 x h0 hx]
  rfl
theorem ex_P {P1 P2 : Int → Prop} {x : Int} (h1 : P1 x) (h2 : P2 x) : ∃ x, P1 x ∧ P2 x := ⟨x, h1, h2⟩
theorem PE_f0 {a : Nat} (hk : (tab ci)[k]? = some (9, p, N)) (ho : PE o L c V (some a)) (hc : mcl c.1 a = some ci) (hg : V a k 0 = -1) : PE (fR ci k o) L c V none := by
  have := PE_fN hk ho hc
  rwa [hg] at this
end EEX
/-- as the reference runs all days as they are -/
def nS (S : oV) : oV := s1 (s1 (s1 S 36 (-1)) 39 (-1)) 40 (-1)
/-- the first place at which a seeing isn't right by a run; the first seeing that isn't -/
def wPl (G R : oV) (s : Int) : Int := fst1 (fun k => decide (¬ colT R (G 22 s) k = G 23 (8 * s + k))) (-2) (G 1 0).toNat 0
def fWr (G R : oV) : Int := fst1 (fun s => decide (¬ wPl G R s = -2)) (-2) (G 6 0).toNat 0
/-- one more move, on fields that hold nothing else -/
def mS (v : Int → Int) (d a b : Int) : oV := fun k => if k = 18 then v else if k = 36 then fun _ => d else if k = 37 then fun _ => a else if k = 38 then fun _ => b else fun _ => -1
def okM (G : oV) (v : Int → Int) (d a b : Int) : Bool := decide (fWr G (runF G (mS v d a b)) = -2)
/-- the explanations found, in their order -/
def XP (G : oV) (v : Int → Int) (E : oV) : Prop := (0 ≤ E 2 0 ∧ E 2 0 ≤ 840) ∧ (∀ i, 0 ≤ i → i < E 2 0 → ∃ d a b, E 1 i = 64 * d + 8 * a + b ∧ 0 ≤ d ∧ d < G 0 0 ∧ 0 ≤ a ∧ a < b ∧ b < G 1 0 ∧ okM G v d a b = true) ∧ (∀ i j, 0 ≤ i → i < j → j < E 2 0 → E 1 i < E 1 j) ∧ (∀ d a b, 0 ≤ d → d < G 0 0 → 0 ≤ a → a < b → b < G 1 0 → okM G v d a b = true → ∃ i, 0 ≤ i ∧ i < E 2 0 ∧ E 1 i = 64 * d + 8 * a + b)
/-- colours given to people: good ones, the fewest, the first row of them -/
def togB (G : oV) (p q : Int) : Bool := anyB (G 0 0).toNat (fun d => hereB G p d && hereB G q d)
def okC (G : oV) (n : Int) (f : Int → Int) : Prop := ∀ p, 0 ≤ p → p < G 4 0 → (0 ≤ f p ∧ f p < n) ∧ ∀ q, 0 ≤ q → q < p → togB G p q = true → f q ≠ f p
def PT (G : oV) (n : Int) (f : Int → Int) : Prop := 1 ≤ n ∧ n ≤ 7 ∧ okC G n f ∧ (∀ f', okC G n f' → (∀ p, 0 ≤ p → p < G 4 0 → f' p = f p) ∨ ∃ p, 0 ≤ p ∧ p < G 4 0 ∧ (∀ q, 0 ≤ q → q < p → f' q = f q) ∧ f p < f' p) ∧ ∀ m f', 1 ≤ m → m < n → ¬ okC G m f'
/-- a diary that is what all days are -/
def FD (G S K D : oV) : Prop := ∀ T, VW G (T 18) → VE G (S 18) T → T 36 0 = -1 → DY G K D (runF G T)
def CDy (V : Mem) (S G : oV) : Prop := V 0 14 0 = 0 ∨ (V 0 14 0 = 1 ∧ FD G S (V 236) (V 235))
def CX (V : Mem) (S G : oV) : Prop := V 279 3 0 = 0 ∨ (V 279 3 0 = 1 ∧ ∃ v, VE G v (nS S) ∧ VW G v ∧ XP G v (V 279))
def MEMO (V : Mem) (S G : oV) : Prop := (0 ≤ V 99 2 0 ∧ V 99 2 0 < 16) ∧ V 99 3 0 = S 21 0 ∧ (0 ≤ S 21 0 ∧ S 21 0 ≤ 16) ∧ V 99 4 0 = S 22 0 ∧ (0 ≤ S 22 0 ∧ S 22 0 ≤ 3) ∧ (∀ i, 0 ≤ i → i < S 21 0 → WR G V (99 + 3 + 7 * ((V 99 2 0 + 16 - S 21 0 + i) % 16).toNat) (fun k => S 19 (59 * i + k)) ∧ VW G (fun k => S 19 (59 * i + k))) ∧ (∀ i, 0 ≤ i → i < S 22 0 → WR G V (99 + 115 + 7 * i.toNat) (fun k => S 20 (59 * i + k)) ∧ VW G (fun k => S 20 (59 * i + k)))
def gP (V : Mem) (g : Nat) : Prop := (g = 2 ∨ g = 43) ∧ V 0 2 0 = (g : Int) ∧ V 0 3 0 = ((45 - g : Nat) : Int)
def TPE (V : Mem) (S : oV) : Prop := (0 ≤ S 6 0 ∧ S 6 0 ≤ 1000) ∧ V 0 1 0 = S 6 0 ∧ (∀ i, 0 ≤ i → i < 1000 → V 0 0 i = S 5 i ∧ -128 ≤ S 5 i ∧ S 5 i ≤ 127) ∧ V 84 9 0 = S 14 0
def TRB (V : Mem) (S : oV) : Prop := V 0 15 0 = S 1 0 ∧ S 2 0 = (if S 1 0 = 4 then V 84 10 0 else -1)
/-- no glass yet -/
def NG (V : Mem) (g : Nat) : Prop := (V g 0 0 = 0 ∧ V g 1 0 = 0 ∧ V g 2 0 = 0 ∧ V g 3 0 = 0 ∧ V g 4 0 = 0 ∧ V g 6 0 = 0 ∧ V g 10 0 = 0 ∧ V g 13 0 = 0) ∧ V 85 3 0 = 0 ∧ V 85 7 0 = 0 ∧ (0 ≤ V 99 2 0 ∧ V 99 2 0 < 16) ∧ V 99 3 0 = 0 ∧ V 99 4 0 = 0 ∧ V 279 3 0 = 0 ∧ (V 0 14 0 = 0 ∨ (V 0 14 0 = 1 ∧ V 236 8 0 = 0))
/-- a glass -/
def GL0 (V : Mem) (S G : oV) (g : Nat) : Prop := GW G ∧ GR V g G ∧ WR G V 85 (S 18) ∧ VW G (S 18) ∧ MEMO V S G ∧ PT G (V 299 2 0) (V 299 1)
def GL (V : Mem) (S G : oV) (g : Nat) : Prop := GL0 V S G g ∧ CDy V S G ∧ CX V S G
def RC (c : cT) (V : Mem) : Prop := 331 ≤ c.1 ∧ (c.1 - 331) % 20 = 0 ∧ ∃ g, gP V g ∧ TPE V (V 305) ∧ TRB V (V 305) ∧ ((V 305 3 0 = -1 ∧ NG V g) ∨ ∃ m, mG c V m ∧ 331 ≤ m ∧ GL V (V 305) (V m) g)
/-- what a call must do: the same answer, and all stays so -/
def cLE (c c' : cT) : Prop := c'.2.1 ≤ c.2.1 + 25 ∧ c'.2.2 ≤ c.2.2 + 2000
theorem cLE_rf {c : cT} : cLE c c := ⟨by omega, by omega⟩
def GC (c : cT) (V : Mem) (mx mm : Nat) (as : List gAV) : Prop := CC 60 mx (vR (some 0) :: as) c V (fun r c1 V1 => ∃ x, r = some (vI x) ∧ CC 60 mm (vR (some 305) :: as) c1 V1 (fun r' c2 V2 => r' = some (vI x) ∧ cLE c c2 ∧ RC c2 V2))
/-- nothing of the class's state is changed -/
def core (a : Nat) : Prop := (0 < a ∧ a < 235 ∧ a ≠ 92) ∨ a = 299 ∨ 305 ≤ a
def SC (V V' : Mem) : Prop := (∀ k, k < 14 → V' 0 k = V 0 k) ∧ ∀ a, core a → V' a = V a
theorem SC.rf {V : Mem} : SC V V := ⟨fun _ _ => rfl, fun _ _ => rfl⟩
theorem SC.tr {V V' V'' : Mem} (h : SC V V') (h' : SC V' V'') : SC V V'' := ⟨fun k hk => (h'.1 k hk).trans (h.1 k hk), fun a ha => (h'.2 a ha).trans (h.2 a ha)⟩
theorem SC.so {V V' : Mem} {a : Nat} {X : oV} (h : SC V V') (ha : a ≠ 0) (hc : ¬ core a) : SC V (sO V' a X) := ⟨fun k hk => by rw [sO_ne (Ne.symm ha)]; exact h.1 k hk, fun b hb => by
  have hn : b ≠ a := by rintro rfl; exact hc hb
  rw [sO_ne hn]; exact h.2 b hb⟩
theorem core_0 : ¬ core 0 := by unfold core; omega
theorem SC.s0 {V V' : Mem} {k : Nat} {f : Int → Int} (h : SC V V') (hk : 14 ≤ k) : SC V (sM V' 0 k f) := ⟨fun j hj => by rw [sM_k (by omega)]; exact h.1 j hj, fun b hb => by
  have hn : b ≠ 0 := by rintro rfl; exact core_0 hb
  rw [sM_o hn]; exact h.2 b hb⟩
theorem SC.sm {V V' : Mem} {a k : Nat} {f : Int → Int} (h : SC V V') (ha : a ≠ 0) (hc : ¬ core a) : SC V (sM V' a k f) := h.so ha hc
/-- the reference's state, but for trouble and where -/
def AQ (S T : oV) : Prop := ∀ k : Nat, 3 ≤ k → k ≤ 22 → T k = S k
theorem AQ.rf {S : oV} : AQ S S := fun _ _ _ => rfl
theorem AQ.tr {S T U : oV} (h : AQ S T) (h' : AQ T U) : AQ S U := fun k a b => (h' k a b).trans (h k a b)
theorem AQ.ws {S T : oV} {k : Nat} {x : Int} (h : AQ S T) (hk : k < 3 ∨ 22 < k) : AQ S (s1 T k x) := fun j a b => by rw [s1_o (by omega)]; exact h j a b
theorem AQ.wu {S T : oV} {k : Nat} {i x : Int} (h : AQ S T) (hk : k < 3 ∨ 22 < k) : AQ S (u1 T k i x) := fun j a b => by rw [u1_o (by omega)]; exact h j a b
theorem AQ.wf {S T : oV} {k : Nat} {f : Int → Int} (h : AQ S T) (hk : k < 3 ∨ 22 < k) : AQ S (sF T k f) := fun j a b => by rw [sF_ne (by omega)]; exact h j a b
theorem AQ.fr {S T U : oV} (h : AQ S T) (hf : Fr T U) : AQ S U := fun j a b => by rw [hf j (by omega)]; exact h j a b
theorem VE_n {G S : oV} : VE G (S 18) (nS S) := by
  unfold VE kindF habitF nS
  simp [s1, sF]
theorem VE_t {G S T : oV} (h : T 18 = S 18) (h39 : T 39 0 = -1) (h40 : T 40 0 = -1) : VE G (S 18) T := by
  unfold VE kindF habitF
  rw [h39, h40, h]
  simp
theorem CX_eq {V V' : Mem} {S S' G : oV} (h : CX V S G) (hv : V' 279 = V 279) (hs : S' 18 = S 18) : CX V' S' G := by
  rcases h with h | ⟨h, v, h1, h2, h3⟩
  · exact Or.inl (by rw [hv]; exact h)
  · refine Or.inr ⟨by rw [hv]; exact h, v, ?_, h2, by rw [hv]; exact h3⟩
    unfold VE kindF habitF nS at h1 ⊢
    simp only [s1, sF] at h1 ⊢
    simpa [hs] using h1
theorem CDy_eq {V V' : Mem} {S S' G : oV} (h : CDy V S G) (hv : V' 235 = V 235) (hv6 : V' 236 = V 236) (h0 : V' 0 14 = V 0 14) (hs : S' 18 = S 18) : CDy V' S' G := by
  unfold CDy FD at *
  rw [hv, hv6, h0, hs]
  exact h
theorem GL0_sc {V V' : Mem} {S S' G : oV} {g : Nat} (h : GL0 V S G g) (hg : g = 2 ∨ g = 43) (hs : SC V V') (ha : AQ S S') : GL0 V' S' G g := by
  obtain ⟨h1, h2, h3, h4, ⟨m1, m2, m3, m4, m5, m6, m7⟩, h6⟩ := h
  have e99 : V' 99 = V 99 := hs.2 99 (by unfold core; omega)
  have e299 : V' 299 = V 299 := hs.2 299 (by unfold core; omega)
  have e85 : V' 85 = V 85 := hs.2 85 (by unfold core; omega)
  refine ⟨h1, GR_ext h2 (hs.2 g (by unfold core; omega)) (fun p hp => hs.2 _ (by unfold core; omega)) h1.2.2.2.2.1.2, ?_, ?_, ⟨?_, ?_, ?_, ?_, ?_, ?_, ?_⟩, ?_⟩
  · rw [ha 18 (by omega) (by omega)]
    exact WR_ext h3 e85
  · rw [ha 18 (by omega) (by omega)]
    exact h4
  · rw [e99]; exact m1
  · rw [e99, ha 21 (by omega) (by omega)]; exact m2
  · rw [ha 21 (by omega) (by omega)]; exact m3
  · rw [e99, ha 22 (by omega) (by omega)]; exact m4
  · rw [ha 22 (by omega) (by omega)]; exact m5
  · intro i i0 i1
    rw [e99, ha 21 (by omega) (by omega), ha 19 (by omega) (by omega)]
    rw [ha 21 (by omega) (by omega)] at i1
    exact ⟨WR_ext (m6 i i0 i1).1 (hs.2 _ (by unfold core; omega)), (m6 i i0 i1).2⟩
  · intro i i0 i1
    rw [ha 20 (by omega) (by omega)]
    rw [ha 22 (by omega) (by omega)] at i1
    exact ⟨WR_ext (m7 i i0 i1).1 (hs.2 _ (by unfold core; omega)), (m7 i i0 i1).2⟩
  · rw [e299]
    exact h6
/-- after a call that only answers: the class's memory V1, then the reference's fields T -/
theorem RC_q {c : cT} {V V1 : Mem} {T : oV} {g m : Nat} {t : Int} (h : RC c V) (hg : gP V g) (hm : mG c V m) (hgl : GL V (V 305) (V m) g) (hm3 : 331 ≤ m) (hs : SC V V1) (hd : CDy V1 (V 305) (V m)) (hx : CX V1 (V 305) (V m)) (ht : V1 0 15 0 = t) (ha : AQ (V 305) T) (h1 : T 1 0 = t) (h2 : T 2 0 = -1) (h4 : t ≠ 4) : RC c (sO V1 305 T) := by
  obtain ⟨c1, c2, g', hg', htp, htr, -⟩ := h
  have e0 : ∀ k, k < 14 → sO V1 305 T 0 k = V 0 k := fun k hk => by rw [sO_ne (by decide)]; exact hs.1 k hk
  have e84 : sO V1 305 T 84 = V 84 := by rw [sO_ne (by decide)]; exact hs.2 84 (by unfold core; omega)
  have em : sO V1 305 T m = V m := by rw [sO_ne (by omega)]; exact hs.2 m (by unfold core; omega)
  refine ⟨c1, c2, g, ⟨hg.1, by rw [e0 2 (by omega)]; exact hg.2.1, by rw [e0 3 (by omega)]; exact hg.2.2⟩, ?_, ?_, Or.inr ⟨m, ⟨?_, hm.2⟩, hm3, ?_⟩⟩
  · obtain ⟨t1, t2, t3, t4⟩ := htp
    unfold TPE
    rw [sO_at, e0 0 (by omega), e0 1 (by omega), e84, ha 5 (by omega) (by omega), ha 6 (by omega) (by omega), ha 14 (by omega) (by omega)]
    exact ⟨t1, t2, t3, t4⟩
  · unfold TRB
    rw [sO_at, h1, h2, if_neg h4]
    exact ⟨by rw [sO_ne (by decide)]; exact ht, rfl⟩
  · rw [sO_at, ha 3 (by omega) (by omega)]
    exact hm.1
  · rw [sO_at, em]
    have g1 : GL0 V1 T (V m) g := GL0_sc hgl.1 hg.1 hs ha
    have g2 : GL0 (sO V1 305 T) T (V m) g := by
      obtain ⟨h1, h2, h3, h4, ⟨m1, m2, m3, m4, m5, m6, m7⟩, h6⟩ := g1
      have hlt : ∀ a, a < 305 → sO V1 305 T a = V1 a := fun a ha => sO_ne (by omega)
      have hgv := hg.1
      refine ⟨h1, GR_ext h2 (hlt g (by omega)) (fun p hp => hlt _ (by omega)) h1.2.2.2.2.1.2, WR_ext h3 (hlt 85 (by omega)), h4, ⟨?_, ?_, m3, ?_, m5, ?_, ?_⟩, ?_⟩
      · rw [hlt 99 (by omega)]; exact m1
      · rw [hlt 99 (by omega)]; exact m2
      · rw [hlt 99 (by omega)]; exact m4
      · intro i i0 i1
        rw [hlt 99 (by omega)]
        exact ⟨WR_ext (m6 i i0 i1).1 (hlt _ (by omega)), (m6 i i0 i1).2⟩
      · intro i i0 i1
        exact ⟨WR_ext (m7 i i0 i1).1 (hlt _ (by omega)), (m7 i i0 i1).2⟩
      · rw [hlt 299 (by omega)]; exact h6
    exact ⟨g2, CDy_eq hd (sO_ne (by decide)) (sO_ne (by decide)) (by rw [sO_ne (by decide)]) (ha 18 (by omega) (by omega)), CX_eq hx (sO_ne (by decide)) (ha 18 (by omega) (by omega))⟩
theorem RC_n {c : cT} {V V1 : Mem} {T : oV} {g : Nat} {t : Int} (h : RC c V) (hg : gP V g) (hz : V 305 3 0 = -1) (hn : NG V1 g) (hs : SC V V1) (ht : V1 0 15 0 = t) (ha : AQ (V 305) T) (h1 : T 1 0 = t) (h2 : T 2 0 = -1) (h4 : t ≠ 4) : RC c (sO V1 305 T) := by
  obtain ⟨c1, c2, g', hg', htp, htr, -⟩ := h
  have e0 : ∀ k, k < 14 → sO V1 305 T 0 k = V 0 k := fun k hk => by rw [sO_ne (by decide)]; exact hs.1 k hk
  have e84 : sO V1 305 T 84 = V 84 := by rw [sO_ne (by decide)]; exact hs.2 84 (by unfold core; omega)
  have hlt : ∀ a, a < 305 → sO V1 305 T a = V1 a := fun a ha => sO_ne (by omega)
  have hgv := hg.1
  refine ⟨c1, c2, g, ⟨hg.1, by rw [e0 2 (by omega)]; exact hg.2.1, by rw [e0 3 (by omega)]; exact hg.2.2⟩, ?_, ?_, Or.inl ⟨?_, ?_⟩⟩
  · obtain ⟨t1, t2, t3, t4⟩ := htp
    unfold TPE
    rw [sO_at, e0 0 (by omega), e0 1 (by omega), e84, ha 5 (by omega) (by omega), ha 6 (by omega) (by omega), ha 14 (by omega) (by omega)]
    exact ⟨t1, t2, t3, t4⟩
  · unfold TRB
    rw [sO_at, h1, h2, if_neg h4]
    exact ⟨by rw [sO_ne (by decide)]; exact ht, rfl⟩
  · rw [sO_at, ha 3 (by omega) (by omega)]
    exact hz
  · unfold NG at hn ⊢
    rw [hlt g (by omega), hlt 85 (by omega), hlt 99 (by omega), hlt 279 (by omega), hlt 0 (by omega), hlt 236 (by omega)]
    exact hn
theorem NG_15 {V : Mem} {g : Nat} {f : Int → Int} (h : NG V g) (hg : g = 2 ∨ g = 43) : NG (sM V 0 15 f) g := by
  unfold NG at h ⊢
  have e : ∀ a, a ≠ 0 → sM V 0 15 f a = V a := fun a ha => sM_o ha
  rw [e g (by omega), e 85 (by decide), e 99 (by decide), e 279 (by decide), e 236 (by decide), sM_k (by decide)]
  exact h
