/-! PAIRINGS in the reference: pairs -/
def ithP (ok : Int → Bool) (n : Nat) (i : Nat) : Int := fst1 (fun p => ok p && decide (cnt p.toNat ok = (i : Int))) 0 n 0
theorem ith_cnt {ok : Int → Bool} {n : Nat} {p : Int} (h0 : 0 ≤ p) (h1 : p < n) (h2 : ok p = true) : ithP ok n (cnt p.toNat ok).toNat = p := by
  have hc := cnt_le (n := p.toNat) (P := ok)
  have e : (((cnt p.toNat ok).toNat : Nat) : Int) = cnt p.toNat ok := by omega
  unfold ithP
  rw [e]
  refine fst1_at h0 (by omega) (by simp [h2]) fun j j0 j1 => ?_
  cases hj : ok j
  · rfl
  · have := cnt_lt j0 hj (n := p.toNat) (by omega)
    have hne : ¬ cnt j.toNat ok = cnt p.toNat ok := by omega
    simp [hne]
theorem cnt_sur {ok : Int → Bool} : ∀ {n i : Nat}, (i : Int) < cnt n ok → ∃ p : Int, 0 ≤ p ∧ p < n ∧ ok p = true ∧ cnt p.toNat ok = (i : Int)
  | 0, i, h => by
    have h : (i : Int) < 0 := h
    omega
  | n + 1, i, h => by
    have h : (i : Int) < cnt n ok + (if ok n = true then 1 else 0) := h
    by_cases hl : (i : Int) < cnt n ok
    · obtain ⟨p, p0, p1, p2, p3⟩ := cnt_sur hl
      exact ⟨p, p0, by omega, p2, p3⟩
    · have hn : ok n = true := by
        by_cases q : ok n = true
        · exact q
        · rw [if_neg q] at h; omega
      rw [if_pos hn] at h
      refine ⟨n, by omega, by omega, hn, ?_⟩
      have : ((n : Int)).toNat = n := by omega
      rw [this]
      omega
/-- what who i may have, some (A) being known -/
def chW (G S : oV) (d : Int) (who : Nat → Int) (A : Int → Bool) (i k : Nat) : Bool := likB G (who i) (colT S d (k : Int)) && (!(A (who i)) || decide (S 33 (7 * d + who i) = (k : Int)))
def CB (G S : oV) (d : Int) (E : Nat → Nat → Bool) (w : Int → Int) : Prop := ∀ p : Int, 0 ≤ p → p < 7 → w p = if (decide (p < G 4 0) && okR S G d p) = true then bset 8 (fun k => E (cnt p.toNat (okR S G d)).toNat k.toNat) else 0
def PRS (X S G : oV) (d : Int) (all : List (List Nat)) : Prop := (∀ k, k ≠ 45 → k ≠ 46 → k ≠ 47 → k ≠ 49 → X k = S k) ∧ CB G S d (dn all) (X 47)
def BF (P n t : Nat) (f : Int → Int) : Prop := (∀ q : Nat, q + 1 < t → 0 ≤ f q ∧ f q < P) ∧ (∀ q : Nat, q + 1 = t → q < n → -1 ≤ f q ∧ f q < P) ∧ (∀ q : Nat, t ≤ q → q < n → f q = -1)
theorem BF_full {P n : Nat} {f : Int → Int} (h : BF P n (n + 1) f) : BF P n n f := ⟨fun q hq => h.1 q (by omega), fun q hq _ => by have := h.1 q (by omega); omega, fun q h1 h2 => by omega⟩
theorem BF_back {P n i : Nat} {f : Int → Int} (h : BF P n (i + 1) f) : BF P n i (gUz f i (-1)) := by
  refine ⟨fun q hq => ?_, fun q hq _ => ?_, fun q h1 h2 => ?_⟩
  · rw [gUz_ne (by omega)]; exact h.1 q (by omega)
  · rw [gUz_ne (by omega)]; have := h.1 q (by omega); omega
  · by_cases e : q = i
    · rw [e, gUz_at]
    · rw [gUz_ne (by omega)]; exact h.2.2 q (by omega) h2
theorem BF_on {P n i k : Nat} {f : Int → Int} (hk : k < P) (h : BF P n (i + 1) f) : BF P n (i + 2) (gUz f i k) := by
  refine ⟨fun q hq => ?_, fun q hq hn => ?_, fun q h1 h2 => ?_⟩
  · by_cases e : q = i
    · rw [e, gUz_at]; omega
    · rw [gUz_ne (by omega)]; exact h.1 q (by omega)
  · rw [gUz_ne (by omega), h.2.2 q (by omega) hn]; omega
  · rw [gUz_ne (by omega)]; exact h.2.2 q (by omega) h2
theorem b8s_dec : ∀ b0 b1 b2 b3 b4 b5 b6 b7 : Bool, ∀ k ∈ List.range 8, decide (zAnd (zShr (bset 8 (fun p => [b0, b1, b2, b3, b4, b5, b6, b7].getD p.toNat false)) (k : Int)) 1 = 1) = [b0, b1, b2, b3, b4, b5, b6, b7].getD k false := by decide +kernel
theorem bset8s {P : Int → Bool} {k : Nat} (hk : k < 8) : decide (zAnd (zShr (bset 8 P) (k : Int)) 1 = 1) = P k := by
  have h := b8s_dec (P 0) (P 1) (P 2) (P 3) (P 4) (P 5) (P 6) (P 7) k (List.mem_range.mpr hk)
  have e1 : bset 8 P = bset 8 (fun p => [P 0, P 1, P 2, P 3, P 4, P 5, P 6, P 7].getD p.toNat false) := bset_congr fun j j0 j1 => l8 j0 j1
  rw [e1, h, l8 (P := P) (p := (k : Int)) (by omega) (by omega)]
  rfl
theorem RN_ext {c : cT} {V : Mem} {g : Nat} {X : oV} (h : RN c V g) (hX : ∀ k, k ≠ 45 → k ≠ 46 → k ≠ 47 → k ≠ 49 → X k = V 305 k) : RN c (sO V 305 X) g := by
  obtain ⟨⟨h1, h2, h3⟩, hG, hr, h70⟩ := h
  have eg : sO V 305 X g = V g := sO_ne h3
  refine ⟨⟨by rw [sO_at, hX 3 (by decide) (by decide) (by decide) (by decide)]; exact h1, h2, h3⟩, by rw [eg]; exact hG, ?_, ?_⟩
  · rw [eg, sO_at]
    unfold RG at hr ⊢
    rw [hX 32 (by decide) (by decide) (by decide) (by decide), hX 34 (by decide) (by decide) (by decide) (by decide), hX 35 (by decide) (by decide) (by decide) (by decide)]
    exact hr
  · rw [sO_at, hX 35 (by decide) (by decide) (by decide) (by decide)]
    exact h70
theorem muI {P n : Nat} {f : Int → Int} (hP : P ≤ 8) (hn : n ≤ 7) (hf : 1 ≤ n → f 0 = -1) : (if 1 ≤ n then 2 * muS P n f 1 else 2 * muS P n f n + 1) ≤ 60000001 := by
  by_cases h : 1 ≤ n
  · rw [if_pos h]
    show 2 * (0 + (((P : Int) - 1 - f ((0 : Nat) : Int)).toNat * (1 + sW P (n - 0 - 1)) + 1)) ≤ 60000001
    have e0 : f ((0 : Nat) : Int) = -1 := hf h
    have en : ((P : Int) - 1 - -1).toNat = P := by omega
    rw [e0, en]
    obtain ⟨k, hk⟩ : ∃ k, n = k + 1 := ⟨n - 1, by omega⟩
    have ek : n - 0 - 1 = k := by omega
    have es : sW P n = P * (1 + sW P k) + 1 := by rw [hk]; rfl
    have h1 := sW_le8 (n := P) (k := n) hP
    have h2 := sW_8 n (List.mem_range.mpr (by omega))
    rw [ek]
    omega
  · rw [if_neg h]
    have : n = 0 := by omega
    subst this
    show 2 * 0 + 1 ≤ 60000001
    omega
def msr (P n : Nat) (f : Int → Int) (t : Nat) : Nat := if t ≤ n then 2 * muS P n f t else 2 * muS P n f n + 1
section PQ
variable {c : cT} {V : Mem} {g : Nat} {R : Option gAV → cT → Mem → Prop}
theorem cc_280 {d kn : Int} (h : RN c V g) (hd0 : 0 ≤ d) (hd9 : d < V g 0 0) (hq : ∀ X, PRS X (V 305) (V g) d (Gs (chW (V g) (V 305) d (ithP (okR (V 305) (V g) d) (V g 4 0).toNat) (fun p => decide (zAnd (zShr kn p) 1 = 1))) (V g 1 0).toNat (cnt (V g 4 0).toNat (okR (V 305) (V g) d)).toNat []) → R (some (vI (((Gs (chW (V g) (V 305) d (ithP (okR (V 305) (V g) d) (V g 4 0).toNat) (fun p => decide (zAnd (zShr kn p) 1 = 1))) (V g 1 0).toNat (cnt (V g 4 0).toNat (okR (V 305) (V g) d)).toNat []).length : Nat) : Int))) c (sO V 305 X)) : CC 7 280 [vR (some 305), vI d, vI kn] c V R := by
  obtain ⟨hm, hG, -, -⟩ := id h
  obtain ⟨m1, m2, ng⟩ := id hm
  obtain ⟨y0, y1, -, -, y4, -⟩ := id hG
  obtain ⟨S, hS⟩ : ∃ S, S = V 305 := ⟨_, rfl⟩
  obtain ⟨G, hGG⟩ : ∃ G, G = V g := ⟨_, rfl⟩
  obtain ⟨P, hP⟩ : ∃ P : Nat, V g 1 0 = (P : Int) := ⟨(V g 1 0).toNat, by omega⟩
  obtain ⟨ok, hok⟩ : ∃ ok, ok = okR (V 305) (V g) d := ⟨_, rfl⟩
  have hcl := cnt_le (n := (V g 4 0).toNat) (P := okR (V 305) (V g) d)
  obtain ⟨n', hn'⟩ : ∃ n' : Nat, cnt (V g 4 0).toNat (okR (V 305) (V g) d) = (n' : Int) := ⟨(cnt (V g 4 0).toNat (okR (V 305) (V g) d)).toNat, by omega⟩
  obtain ⟨who, hwho⟩ : ∃ who, who = ithP (okR (V 305) (V g) d) (V g 4 0).toNat := ⟨_, rfl⟩
  obtain ⟨ch, hch⟩ : ∃ ch, ch = chW (V g) (V 305) d who (fun p => decide (zAnd (zShr kn p) 1 = 1)) := ⟨_, rfl⟩
  have eP : (V g 1 0).toNat = P := by omega
  have en' : (cnt (V g 4 0).toNat (okR (V 305) (V g) d)).toNat = n' := by omega
  rw [← hwho, ← hch, eP, en'] at hq
  have hn7 : n' ≤ 7 := by omega
  have hP8 : P ≤ 8 := by omega
  refine CC_of mt_280 gb_280 (by decide) (by decide) (rcb_o k_305) (Nat.le_of_ble_eq_true rfl) fun n dd hn hd => ?_
  show WW (bX13_pairs (gOr n dd)) n [some (vR (some (305))), some (vI (d)), some (vI (kn)), none, none, none, none, none] _ _ _
  unfold bX13_pairs
  have hn0 : 1000000000 ≤ n := hn
  refine WW_se (WW_cV (PE_aCR (PE_lR rfl) (PE_aCI (PE_lI rfl) PE_a0)) hn (cc_279 hm hG hd0 hd9 fun X hX => ⟨rfl, SQ_n ?_⟩) (by omega))
  obtain ⟨hXo, hX49, hX45⟩ := hX
  rw [hn'] at hX49
  have hwho2 : ∀ i : Nat, i < n' → ∃ p : Int, 0 ≤ p ∧ p < V g 4 0 ∧ okR (V 305) (V g) d p = true ∧ cnt p.toNat (okR (V 305) (V g) d) = (i : Int) ∧ who i = p ∧ X 45 (i : Int) = p := fun i hi => by
    obtain ⟨p, p0, p1, p2, p3⟩ := cnt_sur (ok := okR (V 305) (V g) d) (n := (V g 4 0).toNat) (i := i) (by omega)
    refine ⟨p, p0, by omega, p2, p3, ?_, ?_⟩
    · have := ith_cnt (n := (V g 4 0).toNat) p0 p1 p2
      rw [p3] at this
      rw [hwho]
      exact this
    · have := hX45 p p0 (by omega) p2
      rw [p3] at this
      exact this
  obtain ⟨Z, hZ⟩ : ∃ Z : (Int → Int) → (Int → Int) → oV, Z = fun f w => sF (sF X 46 f) 47 w := ⟨_, rfl⟩
  have Z46 : ∀ f w, Z f w 46 = f := fun f w => by rw [hZ]; simp [sF]
  have Z47 : ∀ f w, Z f w 47 = w := fun f w => by rw [hZ]; simp [sF]
  have Z45 : ∀ f w, Z f w 45 = X 45 := fun f w => by rw [hZ]; simp [sF]
  have Z49 : ∀ f w, Z f w 49 = X 49 := fun f w => by rw [hZ]; simp [sF]
  have Zo : ∀ f w k, k ≠ 45 → k ≠ 46 → k ≠ 47 → k ≠ 49 → Z f w k = V 305 k := fun f w k k5 k6 k7 k9 => by
    rw [hZ]
    show sF (sF X 46 f) 47 w k = V 305 k
    rw [sF_ne k7, sF_ne k6]
    exact hXo k k5 k9
  have u46 : ∀ f w f', sM (sO V 305 (Z f w)) 305 46 f' = sO V 305 (Z f' w) := fun f w f' => by
    rw [sM, sO_sO, sO_at]
    congr 1
    rw [hZ]
    funext k
    simp only [sF]
    split
    · rename_i e; rw [if_neg (by omega)]
    · rfl
  have u47 : ∀ f w w', sM (sO V 305 (Z f w)) 305 47 w' = sO V 305 (Z f w') := fun f w w' => by
    rw [sM, sO_sO, sO_at]
    congr 1
    rw [hZ]
    funext k
    simp only [sF]
    split <;> rfl
  have hat : ∀ (Y : oV) (k : Nat), sO V 305 Y 305 k = Y k := fun Y k => by rw [sO_at]
  have hRN : ∀ f w, RN c (sO V 305 (Z f w)) g := fun f w => RN_ext h (Zo f w)
  have eg : ∀ Y, sO V 305 Y g = V g := fun Y => sO_ne ng
  have Z0 : sO V 305 X = sO V 305 (Z (X 46) (X 47)) := by
    congr 1
    rw [hZ]
    funext k
    simp only [sF]
    split
    · rename_i e; rw [e]
    · split
      · rename_i e; rw [e]
      · rfl
  rw [Z0]
  refine WW_se (WW_st PE_kI (SQ_n (WW_se (WW_se (WW_st PE_kI (SQ_n ?_))))))
  refine WW_for 980000000 0 7 (fun j L1 c1 V1 => ∃ w, L1 = [some (vR (some 305)), some (vI d), some (vI kn), some (vI 0), some (vI j), none, none, none] ∧ c1 = c ∧ V1 = sO V 305 (Z (X 46) w) ∧ ∀ q, 0 ≤ q → q < j → w q = 0) (by omega) (by omega) (by omega) (by omega) ⟨X 47, rfl, rfl, rfl, fun q q0 q1 => by omega⟩ ?_ ?_ ?_
  · rintro j _ c _ j0 j1 ⟨w, rfl, rfl, rfl, hw⟩
    exact ⟨rfl, PE_kI⟩
  · rintro j k' _ c _ j0 j1 hk' ⟨w, rfl, rfl, rfl, hw⟩
    refine WW_asF (ty := 0) (z := 0) rfl (by decide) (PE_lR rfl) k_305 (PE_lI rfl) j0 (by omega) PE_kI rfl (LQ_n ⟨rfl, gUz w j 0, rfl, rfl, by rw [hat, Z47, u47], fun q q0 q1 => ?_⟩)
    by_cases e : q = j
    · rw [e, gUz_at]
    · rw [gUz_ne e]; exact hw q q0 (by omega)
  rintro _ c _ ⟨w0, rfl, rfl, rfl, hw0⟩
  refine SQ_n (WW_se (WW_se (WW_st PE_kI (SQ_n ?_))))
  refine WW_for 980000000 0 7 (fun j L1 c1 V1 => ∃ f, L1 = [some (vR (some 305)), some (vI d), some (vI kn), some (vI 0), some (vI j), none, none, none] ∧ c1 = c ∧ V1 = sO V 305 (Z f w0) ∧ ∀ q, 0 ≤ q → q < j → f q = -1) (by omega) (by omega) (by omega) (by omega) ⟨X 46, rfl, rfl, rfl, fun q q0 q1 => by omega⟩ ?_ ?_ ?_
  · rintro j _ c _ j0 j1 ⟨w, rfl, rfl, rfl, hw⟩
    exact ⟨rfl, PE_kI⟩
  · rintro j k' _ c _ j0 j1 hk' ⟨f, rfl, rfl, rfl, hf⟩
    refine WW_asF (ty := 0) (z := -1) rfl (by decide) (PE_lR rfl) k_305 (PE_lI rfl) j0 (by omega) PE_kI rfl (LQ_n ⟨rfl, gUz f j (-1), rfl, rfl, by rw [hat, Z46, u46], fun q q0 q1 => ?_⟩)
    by_cases e : q = j
    · rw [e, gUz_at]
    · rw [gUz_ne e]; exact hf q q0 (by omega)
  rintro _ c _ ⟨f0, rfl, rfl, rfl, hf0⟩
  refine SQ_n (WW_se (WW_st PE_kI (SQ_n (WW_se ?_))))
  have hmu := muI (f := f0) hP8 hn7 (fun _ => hf0 0 (by omega) (by omega))
  have hms : msr P n' f0 1 ≤ 60000001 := hmu
  refine WW_wh 900000000 (fun r L1 c1 V1 => ∃ (t : Nat) (f w : Int → Int) (L : List (List Nat)) (z5 z6 z7 : Option gAV), L1 = [some (vR (some 305)), some (vI d), some (vI kn), some (vI (L.length : Int)), some (vI ((t : Int) - 1)), z5, z6, z7] ∧ c1 = c ∧ V1 = sO V 305 (Z f w) ∧ t ≤ n' + 1 ∧ ST ch P n' f L t ∧ BF P n' t f ∧ CB (V g) (V 305) d (dn L) w ∧ r = msr P n' f t) ?_ (msr P n' f0 1) _ _ _ _ (by omega) ⟨1, f0, w0, [], _, _, _, rfl, rfl, rfl, by omega, ST_0 (hf0 0 (by omega) (by omega)), ⟨fun q hq => by omega, fun q hq _ => by rw [hf0 q (by omega) (by omega)]; omega, fun q h1 h2 => hf0 q (by omega) (by omega)⟩, fun p p0 p1 => ?_, rfl⟩
  rotate_left
  · rw [hw0 p p0 p1]
    split
    · have : bset 8 (fun k => dn [] (cnt p.toNat (okR (V 305) (V g) d)).toNat k.toNat) = bset 8 (fun _ => false) := bset_congr fun _ _ _ => rfl
      rw [this]
      rfl
    · rfl
  rintro r k1 _ c _ hk1 ⟨t, f, w, L, z5, z6, z7, rfl, rfl, rfl, htn, hST, hBF, hCB, rfl⟩
  have p49 : ∀ {L2 : gLo}, L2[0]? = some (some (vR (some 305))) → ∀ f w, PE (fI 13 49 (lR 0)) L2 c (sO V 305 (Z f w)) (n' : Int) := fun {L2} hl f w => by
    have := PE_fI (ci := 13) (k := 49) (c := c) (V := sO V 305 (Z f w)) (L := L2) rfl (PE_lR hl) k_305
    rwa [hat, Z49, hX49] at this
  by_cases ht0 : t = 0
  · subst ht0
    refine EE_pe (PE_cz (PE_lI rfl)) ⟨(fun hb => by simp [cmB] at hb), fun _ => SQ_n (WW_rt (PE_lI rfl) ⟨_, rfl, rfl, ?_⟩)⟩
    have := ST_end hST
    subst this
    exact hq _ ⟨Zo f w, by rw [Z47]; exact hCB⟩
  obtain ⟨i, rfl⟩ : ∃ i, t = i + 1 := ⟨t - 1, by omega⟩
  have eti : (((i + 1 : Nat) : Int) - 1) = (i : Int) := by omega
  rw [eti]
  refine EE_pe (PE_cz (PE_lI rfl)) ⟨fun _ => ?_, fun hb => absurd (show (i : Int) ≥ 0 by omega) (of_decide_eq_false hb)⟩
  have hLl : (L.length : Int) < 60000000 := by
    have e1 : (Gs ch P n' []).length ≤ 16777216 := by
      rw [← Gs_len hP8]
      refine Nat.le_trans (Mk_le hP8) ?_
      rcases (by omega : n' = 0 ∨ n' = 1 ∨ n' = 2 ∨ n' = 3 ∨ n' = 4 ∨ n' = 5 ∨ n' = 6 ∨ n' = 7) with rfl | rfl | rfl | rfl | rfl | rfl | rfl | rfl <;> decide
    have e2 : L.length ≤ (Gs ch P n' []).length := by
      rcases hST with ⟨-, q⟩ | ⟨-, q⟩ <;> rw [q, List.length_append] <;> omega
    omega
  by_cases hin : i = n'
  · subst hin
    refine WW_se (WW_if (PE_cm (PE_lI rfl) (p49 rfl f w)) (fun _ => ?_) (fun hb => absurd rfl (of_decide_eq_false hb)))
    refine WW_se (WW_in rfl (SQ_n (WW_se (WW_se (WW_st PE_kI (SQ_n ?_))))))
    rw [zAdd_id (by omega) (by omega)]
    refine WW_for 800000000 0 (i : Int) (fun j L1 c1 V1 => ∃ (q : Nat) (w : Int → Int), j = (q : Int) ∧ L1 = [some (vR (some 305)), some (vI d), some (vI kn), some (vI ((L.length : Int) + 1)), some (vI (i : Int)), some (vI j), z6, z7] ∧ c1 = c ∧ V1 = sO V 305 (Z f w) ∧ CB (V g) (V 305) d (fun x k => dn L x k || (decide (x < q) && decide ((f (x : Int)).toNat = k))) w) (by omega) (by omega) (by omega) (by omega) ⟨0, w, rfl, rfl, rfl, rfl, fun p p0 p1 => ?_⟩ ?_ ?_ ?_
    · rw [hCB p p0 p1]
      split
      · refine bset_congr fun z z0 z1 => ?_
        simp
      · rfl
    · rintro j _ c _ j0 j1 ⟨q, w, rfl, rfl, rfl, rfl, hw⟩
      exact ⟨rfl, p49 rfl f w⟩
    · rintro j k2 _ c _ j0 j1 hk2 ⟨q, w, rfl, rfl, rfl, rfl, hw⟩
      have hqi : q < i := by omega
      obtain ⟨p, p0, p1, p2, p3, p4, p5⟩ := hwho2 q hqi
      have hfq := hBF.1 q (by omega)
      obtain ⟨fk, hfk⟩ : ∃ fk : Nat, f (q : Int) = (fk : Int) := ⟨(f (q : Int)).toNat, by omega⟩
      have e45 : PE (aI 0 (fR 13 45 (lR 0)) (lI 5)) [some (vR (some 305)), some (vI d), some (vI kn), some (vI ((L.length : Int) + 1)), some (vI (i : Int)), some (vI (q : Int)), z6, z7] c (sO V 305 (Z f w)) p := by
        have := PE_aF (ty := 0) (ci := 13) (k := 45) (c := c) (V := sO V 305 (Z f w)) (L := [some (vR (some 305)), some (vI d), some (vI kn), some (vI ((L.length : Int) + 1)), some (vI (i : Int)), some (vI (q : Int)), z6, z7]) rfl (by decide) (PE_lR (i := 0) rfl) k_305 (PE_lI (i := 5) rfl) j0 (by omega)
        rwa [hat, Z45, p5] at this
      have e46 : PE (aI 0 (fR 13 46 (lR 0)) (lI 5)) [some (vR (some 305)), some (vI d), some (vI kn), some (vI ((L.length : Int) + 1)), some (vI (i : Int)), some (vI (q : Int)), z6, z7] c (sO V 305 (Z f w)) (fk : Int) := by
        have := PE_aF (ty := 0) (ci := 13) (k := 46) (c := c) (V := sO V 305 (Z f w)) (L := [some (vR (some 305)), some (vI d), some (vI kn), some (vI ((L.length : Int) + 1)), some (vI (i : Int)), some (vI (q : Int)), z6, z7]) rfl (by decide) (PE_lR (i := 0) rfl) k_305 (PE_lI (i := 5) rfl) j0 (by omega)
        rwa [hat, Z46, hfk] at this
      refine WW_au0 rfl (PE_lR rfl) k_305 e45 p0 (by omega) (PE_o2 PE_kI e46) (LQ_n ⟨rfl, q + 1, _, rfl, rfl, rfl, by rw [hat, Z47, u47], fun p' p0' p1' => ?_⟩)
      have hwp := hw p p0 (by omega)
      have hokp : (decide (p < V g 4 0) && okR (V 305) (V g) d p) = true := by rw [p2, decide_eq_true p1]; rfl
      rw [if_pos hokp] at hwp
      by_cases e : p' = p
      · subst e
        rw [gUz_at, if_pos hokp, hwp, or8 (by omega)]
        refine bset_congr fun z z0 z1 => ?_
        have ex : (cnt p'.toNat (okR (V 305) (V g) d)).toNat = q := by omega
        rw [ex]
        have e1 : decide (q < q) = false := decide_eq_false (by omega)
        have e2 : decide (q < q + 1) = true := decide_eq_true (by omega)
        dsimp only
        rw [e1, e2, hfk, Bool.false_and, Bool.or_false, Bool.true_and]
        congr 1
        apply decide_eq_decide.mpr
        omega
      · rw [gUz_ne e, hw p' p0' p1']
        by_cases hk : (decide (p' < V g 4 0) && okR (V 305) (V g) d p') = true
        · rw [if_pos hk, if_pos hk]
          refine bset_congr fun z z0 z1 => ?_
          have hk' := hk
          simp only [Bool.and_eq_true, decide_eq_true_eq] at hk'
          have hne : ¬ (cnt p'.toNat (okR (V 305) (V g) d)).toNat = q := fun ee => e (by
            have a1 := ith_cnt (n := (V g 4 0).toNat) p0' (by omega) hk'.2
            have a2 := ith_cnt (n := (V g 4 0).toNat) p0 (by omega) p2
            rw [ee] at a1
            have : (cnt p.toNat (okR (V 305) (V g) d)).toNat = q := by omega
            rw [this] at a2
            rw [← a1, a2])
          have e1 : decide ((cnt p'.toNat (okR (V 305) (V g) d)).toNat < q) = decide ((cnt p'.toNat (okR (V 305) (V g) d)).toNat < q + 1) := decide_eq_decide.mpr (by omega)
          dsimp only
          rw [e1]
        · rw [if_neg hk, if_neg hk]
    · rintro _ c _ ⟨q, w, hq1, rfl, rfl, rfl, hw⟩
      have hqi : q = i := by omega
      subst hqi
      refine SQ_n (WW_se (WW_in rfl (SQ_n (WW_cn (SQ_s (LQ_c (WW_sk ⟨rfl, msr P q f q, ?_, q, f, w, L ++ [preF f q], some (vI (q : Int)), z6, z7, ?_, rfl, rfl, by omega, ST_full hST, BF_full hBF, fun p p0 p1 => ?_, rfl⟩)))))))
      · unfold msr
        rw [if_pos (Nat.le_refl q), if_neg (by omega)]
        omega
      · rw [zAdd_id (by omega) (by omega), List.length_append]
        rfl
      · rw [hw p p0 p1]
        by_cases hk : (decide (p < V g 4 0) && okR (V 305) (V g) d p) = true
        · rw [if_pos hk, if_pos hk]
          refine bset_congr fun z z0 z1 => ?_
          have hk' := hk
          simp only [Bool.and_eq_true, decide_eq_true_eq] at hk'
          have hlt := cnt_lt p0 hk'.2 (n := (V g 4 0).toNat) (by omega)
          have hxq : (cnt p.toNat (okR (V 305) (V g) d)).toNat < q := by
            have := cnt_le (n := p.toNat) (P := okR (V 305) (V g) d)
            omega
          dsimp only
          rw [dn_app, preF_at hxq, decide_eq_true hxq, Bool.true_and]
          congr 1
        · rw [if_neg hk, if_neg hk]
  have hin2 : i < n' := by omega
  obtain ⟨p, p0, p1, p2, p3, p4, p5⟩ := hwho2 i hin2
  have hfi := hBF.2.1 i rfl hin2
  refine WW_se (WW_if (PE_cm (PE_lI rfl) (p49 rfl f w)) (fun hb => absurd (of_decide_eq_true hb) (by omega)) (fun _ => WW_sk (SQ_n ?_)))
  refine WW_se (WW_st PE_kI (SQ_n (WW_se (WW_se (WW_st PE_kI (SQ_n ?_))))))
  refine WW_for 800000000 0 (i : Int) (fun j L1 c1 V1 => ∃ q : Nat, j = (q : Int) ∧ L1 = [some (vR (some 305)), some (vI d), some (vI kn), some (vI (L.length : Int)), some (vI (i : Int)), some (vI (bset 8 (fun z => (preF f q).contains z.toNat))), some (vI j), z7] ∧ c1 = c ∧ V1 = sO V 305 (Z f w)) (by omega) (by omega) (by omega) (by omega) ⟨0, rfl, rfl, rfl, rfl⟩ ?_ ?_ ?_
  · rintro j _ c _ j0 j1 ⟨q, rfl, rfl, rfl, rfl⟩
    exact ⟨rfl, PE_lI rfl⟩
  · rintro j k2 _ c _ j0 j1 hk2 ⟨q, rfl, rfl, rfl, rfl⟩
    have hfq := hBF.1 q (by omega)
    obtain ⟨fk, hfk⟩ : ∃ fk : Nat, f (q : Int) = (fk : Int) := ⟨(f (q : Int)).toNat, by omega⟩
    have e46 : PE (aI 0 (fR 13 46 (lR 0)) (lI 6)) [some (vR (some 305)), some (vI d), some (vI kn), some (vI (L.length : Int)), some (vI (i : Int)), some (vI (bset 8 (fun z => (preF f q).contains z.toNat))), some (vI (q : Int)), z7] c (sO V 305 (Z f w)) (fk : Int) := by
      have := PE_aF (ty := 0) (ci := 13) (k := 46) (c := c) (V := sO V 305 (Z f w)) (L := [some (vR (some 305)), some (vI d), some (vI kn), some (vI (L.length : Int)), some (vI (i : Int)), some (vI (bset 8 (fun z => (preF f q).contains z.toNat))), some (vI (q : Int)), z7]) rfl (by decide) (PE_lR (i := 0) rfl) k_305 (PE_lI (i := 6) rfl) j0 (by omega)
      rwa [hat, Z46, hfk] at this
    have hup : zOr (bset 8 (fun z => (preF f q).contains z.toNat)) (zShl 1 (fk : Int)) = bset 8 (fun z => (preF f (q + 1)).contains z.toNat) := by
      rw [or8 (by omega)]
      refine bset_congr fun z z0 z1 => ?_
      have e2 : (f (q : Int)).toNat = fk := by omega
      rw [preF_s, List.contains_append, e2]
      congr 1
      by_cases e : z = (fk : Int)
      · rw [decide_eq_true e, e]
        simp
      · have : ¬ z.toNat = fk := by omega
        rw [decide_eq_false e]
        simp [this]
    refine WW_st (PE_o2 (PE_lI rfl) (PE_o2 PE_kI e46)) (LQ_n ⟨rfl, q + 1, rfl, ?_, rfl, rfl⟩)
    rw [hup]
    rfl
  rintro _ c _ ⟨q, hq1, rfl, rfl, rfl⟩
  have hqi : q = i := by omega
  subst hqi
  obtain ⟨us, hus⟩ : ∃ us, us = bset 8 (fun z => (preF f q).contains z.toNat) := ⟨_, rfl⟩
  rw [← hus]
  have e45 : PE (aI 0 (fR 13 45 (lR 0)) (lI 4)) [some (vR (some 305)), some (vI d), some (vI kn), some (vI (L.length : Int)), some (vI (q : Int)), some (vI us), some (vI (q : Int)), z7] c (sO V 305 (Z f w)) p := by
    have := PE_aF (ty := 0) (ci := 13) (k := 45) (c := c) (V := sO V 305 (Z f w)) (L := [some (vR (some 305)), some (vI d), some (vI kn), some (vI (L.length : Int)), some (vI (q : Int)), some (vI us), some (vI (q : Int)), z7]) rfl (by decide) (PE_lR (i := 0) rfl) k_305 (PE_lI (i := 4) rfl) (by omega) (by omega)
    rwa [hat, Z45, p5] at this
  have e46 : PE (aI 0 (fR 13 46 (lR 0)) (lI 4)) [some (vR (some 305)), some (vI d), some (vI kn), some (vI (L.length : Int)), some (vI (q : Int)), some (vI us), some (vI p), z7] c (sO V 305 (Z f w)) (f (q : Int)) := by
    have := PE_aF (ty := 0) (ci := 13) (k := 46) (c := c) (V := sO V 305 (Z f w)) (L := [some (vR (some 305)), some (vI d), some (vI kn), some (vI (L.length : Int)), some (vI (q : Int)), some (vI us), some (vI p), z7]) rfl (by decide) (PE_lR (i := 0) rfl) k_305 (PE_lI (i := 4) rfl) (by omega) (by omega)
    rwa [hat, Z46] at this
  refine SQ_n (WW_se (WW_st e45 (SQ_n (WW_se (WW_st (PE_o2 e46 PE_kI) (SQ_n (WW_se ?_)))))))
  rw [zAdd_id (by omega) (by omega)]
  have hpl : ∀ {L2 : gLo}, L2[0]? = some (some (vR (some 305))) → ∀ f, PE (fI 12 1 (fR 13 3 (lR 0))) L2 c (sO V 305 (Z f w)) (P : Int) := fun hl f => PE_gl hl (hRN f w).1 rfl (by rw [eg]; exact hP)
  refine WW_wh 700000000 (fun r L1 c1 V1 => ∃ k : Nat, r = P - k ∧ k ≤ P ∧ f (q : Int) < (k : Int) ∧ L1 = [some (vR (some 305)), some (vI d), some (vI kn), some (vI (L.length : Int)), some (vI (q : Int)), some (vI us), some (vI p), some (vI (k : Int))] ∧ c1 = c ∧ V1 = sO V 305 (Z f w) ∧ GsF ch P (n' - q - 1) (preF f q) (f (q : Int) + 1).toNat = GsF ch P (n' - q - 1) (preF f q) k) ?_ (P - (f (q : Int) + 1).toNat) _ _ _ _ (by omega) ⟨(f (q : Int) + 1).toNat, rfl, by omega, by omega, by rw [show (((f (q : Int) + 1).toNat : Nat) : Int) = f (q : Int) + 1 by omega]; rfl, rfl, rfl, rfl⟩
  rintro r k3 _ c _ hk3 ⟨k, rfl, hkP, hkf, rfl, rfl, rfl, hgs⟩
  by_cases hkl : k < P
  · have b1 := bset8s (P := fun z => (preF f q).contains z.toNat) (k := k) (by omega)
    rw [← hus] at b1
    have b1 : decide (zAnd (zShr us (k : Int)) 1 = 1) = (preF f q).contains k := b1
    have hpe1 : PE (cB (gOr n dd) 177 (aCI (lI 5) (aCI (lI 7) (a0)))) [some (vR (some 305)), some (vI d), some (vI kn), some (vI (L.length : Int)), some (vI (q : Int)), some (vI us), some (vI p), some (vI (k : Int))] c (sO V 305 (Z f w)) ((preF f q).contains k) := by
      have := PE_cB (PE_aCI (PE_lI (i := 5) (L := [some (vR (some 305)), some (vI d), some (vI kn), some (vI (L.length : Int)), some (vI (q : Int)), some (vI us), some (vI p), some (vI (k : Int))]) (c := c) (V := sO V 305 (Z f w)) rfl) (PE_aCI (PE_lI (i := 7) rfl) PE_a0)) hn pc_177 (by omega : 1 ≤ dd)
      rwa [b1] at this
    have hpe2 : PE (cB (gOr n dd) 278 (aCR (lR 0) (aCI (lI 1) (aCI (lI 6) (aCI (lI 7) (a0)))))) [some (vR (some 305)), some (vI d), some (vI kn), some (vI (L.length : Int)), some (vI (q : Int)), some (vI us), some (vI p), some (vI (k : Int))] c (sO V 305 (Z f w)) (likB (V g) p (colT (V 305) d (k : Int))) := by
      have := PE_cB (PE_aCR (PE_lR (i := 0) (L := [some (vR (some 305)), some (vI d), some (vI kn), some (vI (L.length : Int)), some (vI (q : Int)), some (vI us), some (vI p), some (vI (k : Int))]) (c := c) (V := sO V 305 (Z f w)) rfl) (PE_aCI (PE_lI (i := 1) rfl) (PE_aCI (PE_lI (i := 6) rfl) (PE_aCI (PE_lI (i := 7) rfl) PE_a0)))) hn (pc_278 (d := d) (p := p) (k := (k : Int)) (hRN f w) hd0 (by rw [eg]; exact hd9) p0 (by rw [eg]; exact p1) (by omega) (by omega)) (by omega : 3 ≤ dd)
      rw [eg, sO_at] at this
      unfold colT at this
      rw [Zo f w 32 (by decide) (by decide) (by decide) (by decide), Zo f w 24 (by decide) (by decide) (by decide) (by decide)] at this
      exact this
    have hpe3 : PE (aI 0 (fR 13 33 (lR 0)) (o2 zAdd (o2 zMul (kI 7) (lI 1)) (lI 6))) [some (vR (some 305)), some (vI d), some (vI kn), some (vI (L.length : Int)), some (vI (q : Int)), some (vI us), some (vI p), some (vI (k : Int))] c (sO V 305 (Z f w)) (V 305 33 (7 * d + p)) := by
      have ei : zAdd (zMul 7 d) p = 7 * d + p := by rw [zMul_id (by omega) (by omega), zAdd_id (by omega) (by omega)]
      have := PE_aF (ty := 0) (ci := 13) (k := 33) (c := c) (V := sO V 305 (Z f w)) (L := [some (vR (some 305)), some (vI d), some (vI kn), some (vI (L.length : Int)), some (vI (q : Int)), some (vI us), some (vI p), some (vI (k : Int))]) rfl (by decide) (PE_lR (i := 0) rfl) k_305 (PE_o2 (f := zAdd) (PE_o2 (f := zMul) (PE_kI (z := 7)) (PE_lI (i := 1) rfl)) (PE_lI (i := 6) rfl)) (by rw [ei]; omega) (by rw [ei]; omega)
      rwa [ei, hat, Zo f w 33 (by decide) (by decide) (by decide) (by decide)] at this
    have hpe4 := PE_and (PE_cm (op := .lt) (PE_lI (i := 7) (L := [some (vR (some 305)), some (vI d), some (vI kn), some (vI (L.length : Int)), some (vI (q : Int)), some (vI us), some (vI p), some (vI (k : Int))]) (c := c) (V := sO V 305 (Z f w)) rfl) (hpl rfl f)) (fun _ => PE_or (PE_or hpe1 (fun _ => PE_not hpe2)) (fun _ => PE_and (PE_cB (PE_aCI (PE_lI (i := 2) rfl) (PE_aCI (PE_lI (i := 6) rfl) PE_a0)) hn (pc_177 (x := kn) (y := p)) (by omega : 1 ≤ dd)) (fun _ => PE_cm (op := .ne) hpe3 (PE_lI (i := 7) rfl))))
    have efr : (cmB ClassFile.Cond.lt (k : Int) (P : Int) && ((preF f q).contains k || !(likB (V g) p (colT (V 305) d (k : Int))) || (decide (zAnd (zShr kn p) 1 = 1) && cmB ClassFile.Cond.ne (V 305 33 (7 * d + p)) (k : Int)))) = !(frL ch (preF f q) k) := by
      have a1 : cmB ClassFile.Cond.lt (k : Int) (P : Int) = true := decide_eq_true (by omega)
      have a2 : cmB ClassFile.Cond.ne (V 305 33 (7 * d + p)) (k : Int) = !(decide (V 305 33 (7 * d + p) = (k : Int))) := by
        by_cases e : V 305 33 (7 * d + p) = (k : Int)
        · rw [decide_eq_true e]; exact decide_eq_false (fun z => z e)
        · rw [decide_eq_false e]; exact decide_eq_true e
      unfold frL
      rw [preF_len, hch]
      unfold chW
      rw [p4, a1, a2]
      dsimp only
      generalize (preF f q).contains k = x1
      generalize likB (V g) p (colT (V 305) d (k : Int)) = x2
      generalize decide (zAnd (zShr kn p) 1 = 1) = x3
      generalize decide (V 305 33 (7 * d + p) = (k : Int)) = x4
      cases x1 <;> cases x2 <;> cases x3 <;> cases x4 <;> rfl
    rw [efr] at hpe4
    refine EE_pe hpe4 ⟨fun hb => ?_, fun hb => ?_⟩
    · have hf0 : frL ch (preF f q) k = false := by simpa using hb
      refine WW_in rfl (LQ_n (WW_sk ⟨rfl, P - (k + 1), by omega, k + 1, rfl, by omega, by omega, ?_, rfl, rfl, by rw [hgs, GsF_skip hkl hf0]⟩))
      rw [zAdd_id (by omega) (by omega)]
      rfl
    · have hf0 : frL ch (preF f q) k = true := by simpa using hb
      refine SQ_n (WW_if (PE_cm (PE_lI rfl) (hpl rfl f)) (fun hb => absurd (of_decide_eq_true hb) (by omega)) (fun _ => ?_))
      refine WW_se (WW_asF (ty := 0) (z := (k : Int)) rfl (by decide) (PE_lR rfl) k_305 (PE_lI rfl) (by omega) (by omega) (PE_lI rfl) rfl (SQ_n (WW_in rfl (LQ_n (WW_sk ⟨rfl, msr P n' (gUz f q k) (q + 2), ?_, q + 2, gUz f q k, w, L, some (vI us), some (vI p), some (vI (k : Int)), ?_, rfl, by rw [hat, Z46, u46], by omega, ST_on hST hin2 hgs hkl hf0 (fun hl => hBF.2.2 (q + 1) (by omega) hl), BF_on hkl hBF, hCB, rfl⟩)))))
      · unfold msr
        by_cases hl : q + 1 < n'
        · rw [if_pos (by omega), if_pos (by omega)]
          have := mu_two (n := P) (P := n') (p := q) (f := f) (k := (k : Int)) hkf (by omega) hl (hBF.2.2 (q + 1) (by omega) hl)
          omega
        · rw [if_neg (by omega), if_pos (by omega)]
          have := mu_jump (n := P) (P := n') (p := q) (f := f) (k := (k : Int)) hkf (by omega)
          have e1 : n' = q + 1 := by omega
          rw [e1] at this ⊢
          omega
      · rw [zAdd_id (by omega) (by omega), show (((q + 2 : Nat) : Int) - 1) = (q : Int) + 1 by omega]
        rfl
  · have hkP2 : k = P := by omega
    subst hkP2
    refine EE_pe (PE_and (b' := true) (PE_cm (PE_lI rfl) (hpl rfl f)) (fun hb => absurd (of_decide_eq_true hb) (by omega))) ⟨fun hb => ?_, fun _ => ?_⟩
    · have : cmB ClassFile.Cond.lt (k : Int) (k : Int) = false := decide_eq_false (by omega)
      rw [this] at hb
      cases hb
    refine SQ_n (WW_if (PE_cm (PE_lI rfl) (hpl rfl f)) (fun _ => ?_) (fun hb => absurd rfl (of_decide_eq_false hb)))
    refine WW_se (WW_asF (ty := 0) (z := -1) rfl (by decide) (PE_lR rfl) k_305 (PE_lI rfl) (by omega) (by omega) PE_kI rfl (SQ_n (WW_in rfl (LQ_n (WW_sk ⟨rfl, msr k n' (gUz f q (-1)) q, ?_, q, gUz f q (-1), w, L, some (vI us), some (vI p), some (vI (k : Int)), ?_, rfl, by rw [hat, Z46, u46], by omega, ST_back hST hin2 (by rw [hgs, GsF_end]), BF_back hBF, hCB, rfl⟩)))))
    · unfold msr
      rw [if_pos (by omega), if_pos (by omega)]
      have := mu_back (n := k) (P := n') (p := q) (f := f)
      omega
    · rw [zAdd_id (by omega) (by omega)]
      rfl
end PQ
