/-! PAIRINGS: what the class gathers is what the reference sees -/
/-- where each one's stands of an evening -/
def OWN (G T : oV) (n : Int) : Prop := ∀ d p, 0 ≤ d → d < n → 0 ≤ p → p < 7 → W3 G (T 33 (7 * d + p)) ∧ (T 33 (7 * d + p) < 8 → 0 ≤ T 32 (8 * d + T 33 (7 * d + p)) ∧ T 32 (8 * d + T 33 (7 * d + p)) < T 35 0 ∧ T 23 (T 32 (8 * d + T 33 (7 * d + p))) = p)
theorem OWN_day {G S : oV} {d : Int} (hG : GW G) (hi : DI G S d d) (hm : S 36 0 = -1) (hd : 0 ≤ d) (h : OWN G S d) : OWN G (dayF G d S) (d + 1) := by
  have y4 := hG.2.2.2.2.1
  have y1 := hG.2.1
  obtain ⟨k32, k33, -, o32, o33, -⟩ := day_3 (G := G) (S := S) (d := d) hm hd (by omega) (by omega)
  have e3 := E3_day (G := G) hm hd
  have os := OS_day (G := G) hm hd
  have hW := (DI_even hG (DI_morn hG hd hi)).1.1
  intro d' p d0 d1 p0 p7
  by_cases e : d' = d
  · subst e
    have w3 := hW.2.2.1 p p0 p7 (by omega)
    rw [k33 p p0 p7, e3.2.2, e3.1]
    generalize evenF G d' (mornF G d' S) = E at *
    rcases w3 with ⟨-, q, -⟩ | ⟨b0, b1, b2, q, -⟩
    · exact ⟨Or.inr (Or.inr (Or.inl q)), fun hl => by omega⟩
    · rcases q with q | q | ⟨q1, q2, q3⟩
      · exact ⟨Or.inl q, fun hl => by omega⟩
      · exact ⟨Or.inr (Or.inl q), fun hl => by omega⟩
      · refine ⟨Or.inr (Or.inr (Or.inr ⟨q1, q2⟩)), fun hl => ?_⟩
        rw [k32 _ q1 (by omega), q3]
        exact ⟨b0, b1, b2⟩
  · obtain ⟨h1, h2⟩ := h d' p d0 (by omega) p0 p7
    rw [o33 _ (by omega)]
    refine ⟨h1, fun hl => ?_⟩
    have hk : 0 ≤ S 33 (7 * d' + p) := by
      rcases h1 with q | q | q | ⟨q, -⟩ <;> omega
    obtain ⟨b0, b1, b2⟩ := h2 hl
    rw [o32 _ (by omega)]
    have := os.2 _ b0 b1
    have := os.1
    exact ⟨b0, by omega, by omega⟩
theorem OWN_run {G S : oV} (hG : GW G) (hv : VW G (S 18)) (hm : S 36 0 = -1) : OWN G (runF G S) (G 0 0) := by
  have y0 := hG.1
  have key := it_inv (f := dayF G) (n := (G 0 0).toNat) (s := run0 S) (fun j T => DI G T j j ∧ T 36 0 = -1 ∧ OWN G T j) ⟨DI_run0 hG hv, by rw [Fr_run0 36 (by omega)]; exact hm, fun d p d0 d1 => by omega⟩ fun j T j0 j1 ⟨k1, k2, k3⟩ => ⟨DI_mono (DI_day hG j0 (Or.inl k2) k1) (by omega), by rw [Fr_day 36 (by omega)]; exact k2, OWN_day hG k1 k2 j0 k3⟩
  intro d p d0 d1
  exact key.2.2 d p d0 (by omega)
/-- each likes the colour of his own -/
theorem lik_own {G T : oV} {d p : Int} (hI : IV G T (G 0 0)) (hO : OWN G T (G 0 0)) (hd : 0 ≤ d) (hd1 : d < G 0 0) (hp : 0 ≤ p) (hp7 : p < 7) (hl : T 33 (7 * d + p) < 8) : likB G p (colT T d (T 33 (7 * d + p))) = true := by
  obtain ⟨b0, b1, b2⟩ := (hO d p hd hd1 hp hp7).2 hl
  obtain ⟨-, -, i, i0, i1, i2⟩ := hI.2.1 _ b0 b1
  rw [b2] at i1 i2
  unfold colT
  rw [if_neg (by omega), i2]
  exact anyB_iff.mpr ⟨i, i0, by omega, by simp⟩
section CR
variable {c : cT} {V : Mem} {g : Nat} {K D : oV} {R : Option gAV → cT → Mem → Prop}
theorem cr_209 (h : RH c V g K D) (hq : ∀ W, ME V W → RN c W g → DY (W g) K D (W 305) → OWN (W g) (W 305) (W g 0 0) → R none c W) : CC 6 209 [vR (some 305)] c V R := by
  obtain ⟨h1, h2, h3, h4⟩ := id h
  refine cc_209 h1 h2 h3 (hq _ (ME_sO ME.rf ?_) ?_ ?_ ?_)
  · exact (((AQ.rf.ws (by omega)).ws (by omega)).ws (by omega)).fr Fr_days
  · have hd := h4 (nS (V 305)) h3 VE_n rfl
    have e : ∀ T, sO V 305 T g = V g := fun T => sO_ne h1.2.2
    refine ⟨mG_sO h1 ?_, by rw [e]; exact h2, ?_, ?_⟩
    · rw [runF_eq, Fr_days 3 (by omega)]; rfl
    · rw [e, sO_at]; exact hd.2.2.2.1
    · rw [sO_at]; exact runF_cap (T := nS (V 305)) h2 h3 (Or.inl rfl)
  · rw [sO_ne h1.2.2, sO_at]
    exact h4 (nS (V 305)) h3 VE_n rfl
  · rw [sO_ne h1.2.2, sO_at]
    exact OWN_run (S := nS (V 305)) h2 h3 rfl
end CR
section LK
variable {G K D T : oV} {d : Int}
theorem D2_eq (hD : DY G K D T) (hO : OWN G T (G 0 0)) (hd : 0 ≤ d) (hd1 : d < G 0 0) {p : Int} (hp : 0 ≤ p) (hp4 : p < G 4 0) (h7 : G 4 0 ≤ 7) : D 2 (7 * d + p) = (if T 33 (7 * d + p) = 10 then -2 else T 33 (7 * d + p)) ∧ 0 ≤ T 33 (7 * d + p) ∧ (T 33 (7 * d + p) < 8 → T 33 (7 * d + p) < G 1 0) := by
  refine ⟨((hD.2.2.1 d hd hd1).2 p hp hp4).1, ?_⟩
  have h1 := (hO d p hd hd1 hp (by omega)).1
  rcases h1 with q | q | q | ⟨q, q2⟩
  · omega
  · omega
  · omega
  · exact ⟨q, fun _ => q2⟩
theorem okP_eq (hD : DY G K D T) (hO : OWN G T (G 0 0)) (hd : 0 ≤ d) (hd1 : d < G 0 0) {p : Int} (hp : 0 ≤ p) (hp4 : p < G 4 0) (h7 : G 4 0 ≤ 7) : okP D G d p = okR T G d p := by
  obtain ⟨h1, h2, -⟩ := D2_eq hD hO hd hd1 hp hp4 h7
  unfold okP okR
  congr 1
  rw [h1]
  by_cases e : T 33 (7 * d + p) = 10
  · rw [if_pos e, e]
    rfl
  · rw [if_neg e, decide_eq_true h2, Bool.true_and]
theorem cntP_eq (hD : DY G K D T) (hO : OWN G T (G 0 0)) (hd : 0 ≤ d) (hd1 : d < G 0 0) (h7 : G 4 0 ≤ 7) {n : Nat} (hn : (n : Int) ≤ G 4 0) : cnt n (okP D G d) = cnt n (okR T G d) := cnt_congr fun j j0 j1 => okP_eq hD hO hd hd1 j0 (by omega) h7
theorem lkM_b (h8 : G 1 0 ≤ 8) (hD : DY G K D T) (hd : 0 ≤ d) (hd1 : d < G 0 0) {p : Int} : ∀ {n : Nat}, (n : Int) ≤ G 1 0 → lkM K D G d p n = bset 8 (fun z => decide (z < (n : Int)) && (fun z => likB G p (colT T d z)) z)
  | 0, _ => bs_0.symm
  | n + 1, hn => by
    have ih := lkM_b h8 hD hd hd1 (p := p) (n := n) (by omega)
    have e := DY_col hD hd hd1 (k := (n : Int)) (by omega) (by omega) h8
    show (if likB G p (colD K D d (n : Int)) = true then zOr (lkM K D G d p n) (zShl 1 (n : Int)) else lkM K D G d p n) = _
    rw [← e, ih]
    exact bs_up (D := fun z => likB G p (colT T d z)) (k := n) (by omega)
theorem shz_dec : ∀ k ∈ List.range 8, ¬ zShl 1 (k : Int) = 0 := by decide +kernel
/-- who has a brush there, by the order in which they are gathered -/
theorem gat_who {X : oV} (hX : GAT X K D G d (G 4 0)) (hD : DY G K D T) (hO : OWN G T (G 0 0)) (hd : 0 ≤ d) (hd1 : d < G 0 0) (h7 : G 4 0 ≤ 7) (h0 : 0 ≤ G 4 0) {i : Nat} (hi : (i : Int) < cnt (G 4 0).toNat (okR T G d)) : ∃ p : Int, 0 ≤ p ∧ p < G 4 0 ∧ okR T G d p = true ∧ cnt p.toNat (okR T G d) = (i : Int) ∧ ithP (okR T G d) (G 4 0).toNat i = p ∧ X 1 (i : Int) = p ∧ X 3 (i : Int) = zShl 1 (D 2 (7 * d + p)) ∧ X 2 (i : Int) = lkM K D G d p (G 1 0).toNat := by
  obtain ⟨p, p0, p1, p2, p3⟩ := cnt_sur hi
  have hpok : okP D G d p = true := by rw [okP_eq hD hO hd hd1 p0 (by omega) h7]; exact p2
  obtain ⟨-, -, hP⟩ := hX
  obtain ⟨a1, a2, a3⟩ := hP p p0 (by omega) hpok
  rw [cntP_eq hD hO hd hd1 h7 (by omega), p3] at a1 a2 a3
  refine ⟨p, p0, by omega, p2, p3, ?_, a1, a2, a3⟩
  have := ith_cnt (n := (G 4 0).toNat) p0 p1 p2
  rw [p3] at this
  exact this
theorem ch_link {X : oV} {V : Mem} {a : Int} (hV2 : V 294 2 = X 2) (hV3 : V 294 3 = X 3) (h1 : 2 ≤ G 1 0) (h8 : G 1 0 ≤ 8) (hX : GAT X K D G d (G 4 0)) (hD : DY G K D T) (hO : OWN G T (G 0 0)) (hd : 0 ≤ d) (hd1 : d < G 0 0) (h7 : G 4 0 ≤ 7) (h0 : 0 ≤ G 4 0) {i k : Nat} (hi : i < (cnt (G 4 0).toNat (okR T G d)).toNat) (hk : k < (G 1 0).toNat) : chF2 V a i k = chW G T d (ithP (okR T G d) (G 4 0).toNat) (fun p => decide (¬ zAnd a (zShl 1 (cnt p.toNat (okR T G d))) = 0)) i k := by
  obtain ⟨p, p0, p1, p2, p3, p4, p5, p6, p7⟩ := gat_who hX hD hO hd hd1 h7 h0 (i := i) (by omega)
  obtain ⟨d1', d2', d3'⟩ := D2_eq hD hO hd hd1 p0 p1 h7
  have hl8 : T 33 (7 * d + p) < 8 := by
    unfold okR at p2
    simp only [Bool.and_eq_true, decide_eq_true_eq] at p2
    exact p2.2
  have hown := lik_own hD.2.2.2.2.2.2 hO hd hd1 p0 (by omega) hl8
  unfold chF2 opnF chW
  have d2e : D 2 (7 * d + p) = T 33 (7 * d + p) := by rw [d1', if_neg (by omega)]
  rw [hV2, hV3, p4]
  dsimp only
  rw [p3, p6, p7, d2e]
  obtain ⟨s, hs⟩ : ∃ s : Nat, T 33 (7 * d + p) = (s : Int) := ⟨(T 33 (7 * d + p)).toNat, by omega⟩
  rw [hs] at hown hl8 ⊢
  have hs8 : s < 8 := by omega
  have hk8 : k < 8 := by omega
  by_cases hb : zAnd a (zShl 1 (i : Int)) = 0
  · rw [if_neg (fun q => q hb)]
    have e2 : decide (¬ zAnd a (zShl 1 (i : Int)) = 0) = false := decide_eq_false (fun q => q hb)
    rw [e2, lkM_b h8 hD hd hd1 (by omega), (bset8 (P := fun z => decide (z < ((G 1 0).toNat : Int)) && (fun z => likB G p (colT T d z)) z)).2 k hk8]
    have e3 : decide ((k : Int) < ((G 1 0).toNat : Int)) = true := decide_eq_true (by omega)
    rw [e3]
    simp
  · have e2 : decide (¬ zAnd a (zShl 1 (i : Int)) = 0) = true := decide_eq_true hb
    rw [if_pos hb, e2, shA_dec s (List.mem_range.mpr hs8) k (List.mem_range.mpr hk8)]
    by_cases e : s = k
    · subst e
      rw [if_pos rfl, hown]
      have := shz_dec s (List.mem_range.mpr hs8)
      simp [this]
    · rw [if_neg e]
      have : ¬ (s : Int) = (k : Int) := by omega
      simp [this]
end LK
section FP
variable {c : cT} {V V' V1 V2 : Mem} {g m : Nat} {t : Int}
theorem fin_p (h : RC c V) (hP : gP V g) (hm : mG c V m) (hm3 : 331 ≤ m) (hgl : GL V (V 305) (V m) g) (hQ : TQ V V' t) (hf : FD (V m) (V 305) (V' 236) (V' 235)) (h1 : ∀ a, a ≠ 294 → V1 a = V' a) (hV : mqV V1 V2 t) (ht : t ≠ 4) : RC c V2 := by
  rw [mqV_eq hV]
  have h5 : V1 305 = V 305 := (h1 305 (by decide)).trans (tq_o hQ (by omega))
  have h9 : V1 279 = V 279 := (h1 279 (by decide)).trans (hQ.1 279 (by omega) (by omega) (by omega))
  have hsc := TQ_SC hQ
  have e0 : V1 0 = V' 0 := h1 0 (by decide)
  refine RC_q h hP hm hgl hm3 ⟨fun k hk => by rw [e0]; exact hsc.1 k hk, fun a ha => (h1 a (by rintro rfl; unfold core at ha; omega)).trans (hsc.2 a ha)⟩ (Or.inr ⟨by rw [e0]; exact hQ.2.2.1, by rw [h1 236 (by decide), h1 235 (by decide)]; exact hf⟩) (CX_eq hgl.2.2 h9 rfl) (by rw [e0]; exact hQ.2.2.2) ?_ hV.2.1 hV.2.2 ht
  have := hV.1.2
  rwa [h5] at this
end FP
