/-! THE REFERENCE'S READER: tokens -/
/-- where a reading stands: on at q, or over with a fault at q -/
def gOn (t : Int → Int) (N : Int) (s : Int × Int) : Int × Int := if s.1 = 0 then (0, nxF t N s.2) else s
def flw (t : Int → Int) (N : Int) (s : Int × Int) (f : Int) : Int × Int := if s.1 = 0 then (f, stF t N s.2) else s
def RT (t : Int → Int) (N : Int) (S : oV) (q : Int) : Prop := (0 ≤ q ∧ q ≤ N) ∧ S 14 0 = 0 ∧ S 9 0 = kdR (kdF t N q) ∧ S 10 0 = stF t N q ∧ (kdF t N q ≠ 0 → S 8 0 = nxF t N q) ∧ (kdF t N q = 4 → S 11 0 = 59) ∧ (kdF t N q = 5 → S 11 0 = 44) ∧ (kdF t N q = 3 → S 12 0 = vlF t N q) ∧ (kdF t N q = 2 → S 13 0 = lnF t N q ∧ S 17 0 = wdF t N q ∧ ∀ k : Int, 0 ≤ k → k < lnF t N q → S 16 k = t (stF t N q + k))
def RS (t : Int → Int) (N : Int) (S : oV) (s : Int × Int) : Prop := S 7 0 = N ∧ (s.1 = 0 → RT t N S s.2) ∧ (s.1 ≠ 0 → S 9 0 = 5 ∧ S 14 0 = s.1 ∧ S 15 0 = s.2)
def FrT (S T : oV) : Prop := ∀ k : Nat, k < 8 ∨ 17 < k → T k = S k
theorem FrT.rf {S : oV} : FrT S S := fun _ _ => rfl
theorem FrT.tr {S T U : oV} (a : FrT S T) (b : FrT T U) : FrT S U := fun k h => (b k h).trans (a k h)
theorem FrT.ws {S T : oV} {k : Nat} {f : Int → Int} (h : FrT S T) (h1 : 8 ≤ k) (h2 : k ≤ 17) : FrT S (sF T k f) := fun j hj => by rw [sF_ne (by omega)]; exact h j hj
/-- the tape that the reference reads -/
def TX (t : Int → Int) (N : Int) (T : Int → Int) : Prop := (0 ≤ N ∧ N ≤ 1000) ∧ ∀ i : Int, 0 ≤ i → i < 1000 → T i = t i ∧ -128 ≤ t i ∧ t i ≤ 127
def byF (t : Int → Int) (N k : Int) : Int := if k < N then (if t k < 0 then t k + 256 else t k) else -1
theorem ub_dec : ∀ x ∈ List.range 256, zAnd ((x : Int) - 128) 255 = if (x : Int) - 128 < 0 then (x : Int) - 128 + 256 else (x : Int) - 128 := by decide +kernel
theorem kdF_r {t : Int → Int} {N q : Int} : kdF t N q = 0 ∨ kdF t N q = 1 ∨ kdF t N q = 2 ∨ kdF t N q = 3 ∨ kdF t N q = 4 ∨ kdF t N q = 5 := by
  unfold kdF
  repeat' split
  all_goals omega
section RK
variable {c : cT} {V : Mem} {R : Option gAV → cT → Mem → Prop} {t : Int → Int} {N : Int}
theorem pc_179 {k : Int} (h7 : V 305 7 0 = N) (ht : TX t N (V 305 5)) (hk : 0 ≤ k) : PC 1 179 [vR (some 305), vI k] c V (some (vI (byF t N k))) := by
  obtain ⟨n0, n1⟩ := ht.1
  refine PC_of ?_
  refine CC_of mt_179 gb_179 (by decide) (by decide) (rcb_o k_305) (Nat.le_of_ble_eq_true rfl) fun n dd hn hd => ?_
  show WW (bX13_byteAt (gOr n dd)) n [some (vR (some (305))), some (vI (k))] _ _ _
  unfold bX13_byteAt
  have hn0 : 1000000000 ≤ n := hn
  have p7 : PE (fI 13 7 (lR 0)) [some (vR (some 305)), some (vI k)] c V N := by
    have := PE_fI (ci := 13) (k := 7) (c := c) (V := V) (L := [some (vR (some 305)), some (vI k)]) rfl (PE_lR (i := 0) rfl) k_305
    rwa [h7] at this
  by_cases hkn : k < N
  · obtain ⟨t1, t2, t3⟩ := ht.2 k hk (by omega)
    have p5 := PE_aF (ty := 1) (ci := 13) (k := 5) (c := c) (V := V) (L := [some (vR (some 305)), some (vI k)]) rfl (by decide) (PE_lR (i := 0) rfl) k_305 (PE_lI (i := 1) rfl) hk (by omega)
    rw [t1] at p5
    refine WW_rt (PE_ite (v := -1) (PE_cm (PE_lI rfl) p7) (fun _ => PE_o2 p5 PE_kI) (fun _ => PE_kI)) ⟨_, rfl, rfl, ?_, rfl, rfl⟩
    have e : cmB ClassFile.Cond.lt k N = true := decide_eq_true hkn
    have u := ub_dec (t k + 128).toNat (List.mem_range.mpr (by omega))
    rw [show (((t k + 128).toNat : Nat) : Int) - 128 = t k by omega] at u
    unfold byF
    rw [if_pos e, if_pos hkn, u]
  · have e : cmB ClassFile.Cond.lt k N = false := decide_eq_false hkn
    refine WW_rt (PE_ite (u := 0) (PE_cm (PE_lI rfl) p7) (fun hb => by rw [e] at hb; cases hb) (fun _ => PE_kI)) ⟨_, rfl, rfl, ?_, rfl, rfl⟩
    unfold byF
    rw [if_neg hkn, e]
    rfl
theorem px_180 {x : Int} : PC 1 180 [vI x] c V (some (vB (letB x))) := pc_180
theorem px_181 {x : Int} : PC 1 181 [vI x] c V (some (vB (digB x))) := pc_181
theorem by_let {k : Int} (ht : TX t N (V 305 5)) (hk : 0 ≤ k) : letB (byF t N k) = (decide (k < N) && letB (t k)) ∧ digB (byF t N k) = (decide (k < N) && digB (t k)) := by
  unfold byF
  have hN := ht.1
  by_cases h : k < N
  · have := (ht.2 k hk (by omega)).2
    rw [if_pos h, decide_eq_true h, Bool.true_and, Bool.true_and]
    by_cases h0 : t k < 0
    · rw [if_pos h0]
      unfold letB digB
      rw [decide_eq_false (show ¬ 97 ≤ t k by omega), decide_eq_false (show ¬ 48 ≤ t k by omega), decide_eq_false (show ¬ t k + 256 ≤ 122 by omega), decide_eq_false (show ¬ t k + 256 ≤ 57 by omega), Bool.and_false, Bool.and_false]
      exact ⟨rfl, rfl⟩
    · rw [if_neg h0]
      exact ⟨rfl, rfl⟩
  · rw [if_neg h, decide_eq_false h]
    exact ⟨rfl, rfl⟩
theorem cx_183 {p : Int} (ht : TX t N (V 305 5)) (h7 : V 305 7 0 = N) (h9 : V 305 9 0 ≠ 5) (h14 : V 305 14 0 = 0) (h8 : V 305 8 0 = p) (hp : 0 ≤ p) (hpN : p ≤ N) (hq : ∀ X, FrT (V 305) X → X 7 0 = N → RT t N X p → R none c (sO V 305 X)) : CC 3 183 [vR (some 305)] c V R := by
  obtain ⟨n0, n1⟩ := ht.1
  have hat : ∀ (X : oV) (k : Nat), sO V 305 X 305 k = X k := fun X k => by rw [sO_at]
  have up : ∀ (X : oV) (k : Nat) (f : Int → Int), sM (sO V 305 X) 305 k f = sO V 305 (sF X k f) := fun X k f => by rw [sM, sO_sO, sO_at]
  have b0 := st_b (t := t) hp hpN
  have hby : ∀ {X : oV} {k : Int}, FrT (V 305) X → 0 ≤ k → PC 1 179 [vR (some 305), vI k] c (sO V 305 X) (some (vI (byF t N k))) := fun {X k} hf hk => pc_179 (by rw [hat, hf 7 (by omega)]; exact h7) (by rw [hat, hf 5 (by omega)]; exact ht) hk
  refine CC_of mt_183 gb_183 (by decide) (by decide) (rcb_o k_305) (Nat.le_of_ble_eq_true rfl) fun n dd hn hd => ?_
  show WW (bX13_goesOn (gOr n dd)) n [some (vR (some (305))), none, none] _ _ _
  unfold bX13_goesOn
  have hn0 : 1000000000 ≤ n := hn
  refine WW_se (WW_se (WW_if (PE_cm (PE_fI rfl (PE_lR rfl) k_305) PE_kI) (fun hb => absurd (of_decide_eq_true hb) h9) (fun _ => WW_sk (SQ_n (WW_se ?_)))))
  have pby : ∀ {L : gLo} {X : oV} {k : Int}, L[0]? = some (some (vR (some 305))) → FrT (V 305) X → X 8 0 = k → 0 ≤ k → PE (cI (gOr n dd) 179 (aCR (lR 0) (aCI (fI 13 8 (lR 0)) (a0)))) L c (sO V 305 X) (byF t N k) := fun {L X k} hl hf hx hk => by
    have p8 := PE_fI (ci := 13) (k := 8) (c := c) (V := sO V 305 X) (L := L) rfl (PE_lR hl) k_305
    rw [hat, hx] at p8
    exact PE_cI (PE_aCR (PE_lR hl) (PE_aCI p8 PE_a0)) hn (hby hf hk) (by omega)
  -- the spaces
  refine WW_wh 990000000 (fun r L1 c1 V1 => ∃ (k : Int) (X : oV), p ≤ k ∧ k ≤ N ∧ r = (N - k).toNat ∧ L1 = [some (vR (some 305)), none, none] ∧ c1 = c ∧ V1 = sO V 305 X ∧ FrT (V 305) X ∧ X 8 0 = k ∧ X 9 0 = V 305 9 0 ∧ X 14 0 = 0 ∧ ∀ j, p ≤ j → j < k → t j = 32) ?_ (N - p).toNat _ _ _ _ (by omega) ⟨p, V 305, by omega, hpN, rfl, rfl, rfl, sO_id.symm, FrT.rf, h8, rfl, h14, fun j j0 j1 => by omega⟩
  rintro r k1 _ c _ hk1 ⟨k, X, k0, kN, rfl, rfl, rfl, rfl, hf, x8, x9, x14, hsp⟩
  by_cases hs : k < N ∧ t k = 32
  · have eb : byF t N k = 32 := by unfold byF; rw [if_pos hs.1, if_neg (by omega), hs.2]
    refine EE_pe (PE_cm (pby rfl hf x8 (by omega)) PE_kI) ⟨fun _ => ?_, fun hb => absurd eb (of_decide_eq_false hb)⟩
    refine WW_pu rfl (PE_lR rfl) k_305 PE_kI (LQ_n (WW_sk ⟨rfl, (N - (k + 1)).toNat, by omega, k + 1, sF X 8 (fun _ => k + 1), by omega, by omega, rfl, rfl, rfl, ?_, hf.ws (by omega) (by omega), by rw [sF_at], by rw [sF_ne (by decide)]; exact x9, by rw [sF_ne (by decide)]; exact x14, fun j j0 j1 => ?_⟩))
    · rw [up, hat, x8, zAdd_id (by omega) (by omega)]
    · by_cases e : j = k
      · rw [e]; exact hs.2
      · exact hsp j j0 (by omega)
  have eb : ¬ byF t N k = 32 := by
    unfold byF
    have := ht.2 k (by omega)
    split
    · split <;> omega
    · omega
  have est : stF t N p = k := st_at k0 kN hsp (fun hl q => hs ⟨hl, q⟩)
  refine EE_pe (PE_cm (pby rfl hf x8 (by omega)) PE_kI) ⟨fun hb => absurd (of_decide_eq_true hb) eb, fun _ => SQ_n ?_⟩
  have p8 := PE_fI (ci := 13) (k := 8) (c := c) (V := sO V 305 X) (L := [some (vR (some 305)), none, none]) rfl (PE_lR (i := 0) rfl) k_305
  rw [hat, x8] at p8
  refine WW_se (WW_pf rfl (PE_lR rfl) k_305 p8 (SQ_n (WW_se (WW_pf rfl (PE_lR rfl) k_305 PE_kI (SQ_n (WW_se (WW_pf rfl (PE_lR rfl) k_305 PE_kI (SQ_n ?_))))))))
  rw [up, up, up]
  obtain ⟨Y, hY⟩ : ∃ Y, Y = sF (sF (sF X 10 (fun _ => k)) 9 (fun _ => 0)) 11 (fun _ => 0) := ⟨_, rfl⟩
  rw [← hY]
  have y8 : Y 8 0 = k := by rw [hY, sF_ne (by decide), sF_ne (by decide), sF_ne (by decide)]; exact x8
  have y9 : Y 9 0 = 0 := by rw [hY, sF_ne (by decide), sF_at]
  have y10 : Y 10 0 = k := by rw [hY, sF_ne (by decide), sF_ne (by decide), sF_at]
  have y14 : Y 14 0 = 0 := by rw [hY, sF_ne (by decide), sF_ne (by decide), sF_ne (by decide)]; exact x14
  have hfY : FrT (V 305) Y := by rw [hY]; exact ((hf.ws (by omega) (by omega)).ws (by omega) (by omega)).ws (by omega) (by omega)
  clear hY p8 x8 x9 x14 hf X
  refine WW_se (WW_st (pby rfl hfY y8 (by omega)) (SQ_n (WW_se (WW_st PE_kI (SQ_n ?_)))))
  obtain ⟨l1, l2⟩ := by_let (V := V) (k := k) ht (by omega)
  by_cases hkN : k < N
  rotate_left
  · -- the end
    have ek : kdF t N p = 1 := by unfold kdF; rw [est, if_pos (by omega)]
    have en : nxF t N p = k := by unfold nxF; rw [est, if_pos (by omega)]
    have eb1 : byF t N k = -1 := by unfold byF; rw [if_neg hkN]
    rw [eb1]
    refine WW_if (PE_cm (PE_lI rfl) PE_kI) (fun _ => WW_pf rfl (PE_lR rfl) k_305 PE_kI (SQ_n (WW_rtV ⟨_, rfl, rfl, ?_⟩))) (fun hb => by simp [cmB] at hb)
    rw [up]
    refine hq _ (hfY.ws (by omega) (by omega)) (by rw [sF_ne (by decide), hfY 7 (by omega)]; exact h7) ⟨⟨hp, hpN⟩, ?_, ?_, ?_, fun _ => ?_, fun q => by omega, fun q => by omega, fun q => by omega, fun q => by omega⟩
    · rw [sF_ne (by decide)]; exact y14
    · rw [sF_at, ek]; rfl
    · rw [sF_ne (by decide), est]; exact y10
    · rw [sF_ne (by decide), en]; exact y8
  obtain ⟨tk1, tk2, tk3⟩ := ht.2 k (by omega) (by omega)
  have hbn : ¬ byF t N k = -1 := by
    unfold byF
    rw [if_pos hkN]
    split <;> omega
  rw [decide_eq_true hkN, Bool.true_and] at l1 l2
  refine WW_if (PE_cm (PE_lI rfl) PE_kI) (fun hb => absurd (of_decide_eq_true hb) hbn) (fun _ => ?_)
  have pl := PE_cB (L := [some (vR (some 305)), some (vI (byF t N k)), some (vI 0)]) (c := c) (V := sO V 305 Y) (PE_aCI (PE_lI (i := 1) rfl) PE_a0) hn (px_180 (x := byF t N k)) (by omega : 1 ≤ dd)
  rw [l1] at pl
  by_cases hlet : letB (t k) = true
  · -- a word
    have en : nxF t N p = enF t N 97 122 k := by unfold nxF; rw [est, if_neg (by omega), if_pos hlet]
    have eb := en_b (t := t) (N := N) (lo := 97) (hi := 122) (q := k) (by omega) (by omega)
    refine WW_if pl (fun _ => ?_) (fun hb => by rw [hlet] at hb; cases hb)
    refine WW_se (WW_pfL rfl (PE_lR rfl) k_305 PE_kI (SQ_n (WW_se ?_)))
    rw [up]
    refine WW_wh 900000000 (fun r L1 c1 V1 => ∃ (m : Nat) (X : oV), k + m ≤ N ∧ r = (N - (k + m)).toNat ∧ L1 = [some (vR (some 305)), some (vI (byF t N k)), some (vI (m : Int))] ∧ c1 = c ∧ V1 = sO V 305 X ∧ FrT (V 305) X ∧ X 8 0 = k + m ∧ X 9 0 = 0 ∧ X 10 0 = k ∧ X 14 0 = 0 ∧ X 17 0 = wv (fun j => t (k + j) - 96) (if m ≤ 8 then m else 8) ∧ (∀ j : Int, 0 ≤ j → j < m → j < 8 → X 16 j = t (k + j)) ∧ ∀ j : Int, 0 ≤ j → j < m → 97 ≤ t (k + j) ∧ t (k + j) ≤ 122) ?_ (N - k).toNat _ _ _ _ (by omega) ⟨0, _, by omega, by rw [show k + ((0 : Nat) : Int) = k by omega], rfl, rfl, rfl, hfY.ws (by omega) (by omega), by rw [sF_ne (by decide), y8]; omega, by rw [sF_ne (by decide)]; exact y9, by rw [sF_ne (by decide)]; exact y10, by rw [sF_ne (by decide)]; exact y14, by rw [sF_at]; rfl, fun j j0 j1 => by omega, fun j j0 j1 => by omega⟩
    rintro r k2 _ c _ hk2 ⟨m, X, hmN, rfl, rfl, rfl, rfl, hf, x8, x9, x10, x14, x17, x16, hl⟩
    obtain ⟨q1, -⟩ := by_let (V := V) (k := k + m) ht (by omega)
    have pl2 := PE_cB (PE_aCI (pby (L := [some (vR (some 305)), some (vI (byF t N k)), some (vI (m : Int))]) rfl hf x8 (by omega)) PE_a0) hn (px_180 (x := byF t N (k + m))) (by omega : 1 ≤ dd)
    rw [q1] at pl2
    by_cases hgo : k + m < N ∧ letB (t (k + m)) = true
    · rw [decide_eq_true hgo.1, hgo.2] at pl2
      have hlm := hgo.2
      unfold letB at hlm
      simp only [Bool.and_eq_true, decide_eq_true_eq] at hlm
      have ebm : byF t N (k + m) = t (k + m) := by unfold byF; rw [if_pos hgo.1, if_neg (by omega)]
      refine EE_pe pl2 ⟨fun _ => ?_, fun hb => by cases hb⟩
      have hl' : ∀ j : Int, 0 ≤ j → j < ((m + 1 : Nat) : Int) → 97 ≤ t (k + j) ∧ t (k + j) ≤ 122 := fun j j0 j1 => by
        by_cases e : j = m
        · rw [e]; exact hlm
        · exact hl j j0 (by omega)
      by_cases hm8 : m < 8
      · refine WW_se (WW_if (PE_cm (PE_lI rfl) PE_kI) (fun _ => ?_) (fun hb => absurd (show (m : Int) < 8 by omega) (of_decide_eq_false hb)))
        refine WW_se (WW_asF (ty := 0) (z := t (k + m)) rfl (by decide) (PE_lR rfl) k_305 (PE_lI rfl) (by omega) (by omega) (pby rfl hf x8 (by omega)) (by rw [ebm]; rfl) (SQ_n ?_))
        rw [up, hat]
        have p16 := PE_aF (ty := 0) (ci := 13) (k := 16) (c := c) (V := sO V 305 (sF X 16 (gUz (X 16) m (t (k + m))))) (L := [some (vR (some 305)), some (vI (byF t N k)), some (vI (m : Int))]) rfl (by decide) (PE_lR (i := 0) rfl) k_305 (PE_lI (i := 2) rfl) (by omega) (by omega)
        rw [hat, sF_at, gUz_at] at p16
        have p17 := PE_fL (ci := 13) (k := 17) (c := c) (V := sO V 305 (sF X 16 (gUz (X 16) m (t (k + m))))) (L := [some (vR (some 305)), some (vI (byF t N k)), some (vI (m : Int))]) rfl (PE_lR (i := 0) rfl) k_305
        rw [hat, sF_ne (by decide), x17, if_pos (by omega)] at p17
        have hdg : ∀ j : Int, 0 ≤ j → j < m → 1 ≤ t (k + j) - 96 ∧ t (k + j) - 96 ≤ 31 := fun j j0 j1 => by have := hl j j0 j1; omega
        have hw := wv_le hdg (m := m) (Nat.le_refl m)
        have hpw : (32 : Int) ^ m ≤ 32 ^ 7 := by
          rcases (by omega : m = 0 ∨ m = 1 ∨ m = 2 ∨ m = 3 ∨ m = 4 ∨ m = 5 ∨ m = 6 ∨ m = 7) with e | e | e | e | e | e | e | e <;> rw [e] <;> decide
        have e7 : (32 : Int) ^ 7 = 34359738368 := by decide
        refine WW_pfL rfl (PE_lR rfl) k_305 (PE_o2 (PE_o2 PE_kI p17) (PE_o2 (PE_o2 p16 PE_kI) PE_kI)) (SQ_n ?_)
        have e1 : zAdd (zSub (t (k + m)) 97) 1 = t (k + m) - 96 := by
          rw [zSub_id (by omega) (by omega), zAdd_id (by omega) (by omega)]
          omega
        rw [up, e1, lMul_id (by omega) (by omega), lAdd_id (by omega) (by omega)]
        refine WW_se (WW_in rfl (SQ_n (WW_pu rfl (PE_lR rfl) k_305 PE_kI (LQ_n (WW_sk ⟨rfl, (N - (k + (m + 1 : Nat))).toNat, by omega, m + 1, sF (sF (sF X 16 (gUz (X 16) m (t (k + m)))) 17 (fun _ => 32 * wv (fun j => t (k + j) - 96) m + (t (k + m) - 96))) 8 (fun _ => k + (m + 1 : Nat)), by omega, rfl, ?_, rfl, ?_, ((hf.ws (by omega) (by omega)).ws (by omega) (by omega)).ws (by omega) (by omega), by rw [sF_at], ?_, ?_, ?_, ?_, fun j j0 j1 j8 => ?_, hl'⟩)))))
        · rw [zAdd_id (by omega) (by omega)]; rfl
        · rw [up, hat, sF_ne (by decide), sF_ne (by decide), x8, zAdd_id (by omega) (by omega), show k + (m : Int) + 1 = k + ((m + 1 : Nat) : Int) by omega]
        · rw [sF_ne (by decide), sF_ne (by decide), sF_ne (by decide)]; exact x9
        · rw [sF_ne (by decide), sF_ne (by decide), sF_ne (by decide)]; exact x10
        · rw [sF_ne (by decide), sF_ne (by decide), sF_ne (by decide)]; exact x14
        · rw [sF_ne (by decide), sF_at, if_pos (by omega)]; rfl
        · rw [sF_ne (by decide), sF_ne (by decide), sF_at]
          by_cases e : j = m
          · rw [e, gUz_at]
          · rw [gUz_ne e]; exact x16 j j0 (by omega) j8
      · refine WW_se (WW_if (PE_cm (PE_lI rfl) PE_kI) (fun hb => absurd (of_decide_eq_true hb) (by omega)) (fun _ => WW_sk (SQ_n ?_)))
        refine WW_se (WW_in rfl (SQ_n (WW_pu rfl (PE_lR rfl) k_305 PE_kI (LQ_n (WW_sk ⟨rfl, (N - (k + (m + 1 : Nat))).toNat, by omega, m + 1, sF X 8 (fun _ => k + (m + 1 : Nat)), by omega, rfl, ?_, rfl, ?_, hf.ws (by omega) (by omega), by rw [sF_at], ?_, ?_, ?_, ?_, fun j j0 j1 j8 => ?_, hl'⟩)))))
        · rw [zAdd_id (by omega) (by omega)]; rfl
        · rw [up, hat, x8, zAdd_id (by omega) (by omega), show k + (m : Int) + 1 = k + ((m + 1 : Nat) : Int) by omega]
        · rw [sF_ne (by decide)]; exact x9
        · rw [sF_ne (by decide)]; exact x10
        · rw [sF_ne (by decide)]; exact x14
        · rw [sF_ne (by decide), x17]
          by_cases e : m ≤ 8
          · rw [if_pos e, if_neg (by omega), show m = 8 by omega]
          · rw [if_neg e, if_neg (by omega)]
        · rw [sF_ne (by decide)]; exact x16 j j0 (by omega) j8
    · have hno : (decide (k + (m : Int) < N) && letB (t (k + m))) = false := by
        cases hh : (decide (k + (m : Int) < N) && letB (t (k + m)))
        · rfl
        · simp only [Bool.and_eq_true, decide_eq_true_eq] at hh
          exact absurd hh hgo
      rw [hno] at pl2
      refine EE_pe pl2 ⟨(fun hb => by cases hb), fun _ => SQ_n ?_⟩
      have een : enF t N 97 122 k = k + m := en_at (by omega) hmN (fun j j0 j1 => by have := hl (j - k) (by omega) (by omega); rw [show k + (j - k) = j by omega] at this; exact this) (fun hlt q => hgo ⟨hlt, by unfold letB; rw [decide_eq_true q.1, decide_eq_true q.2]; rfl⟩)
      have hm1 : 1 ≤ m := by
        have := (nx_b (t := t) hp hpN).2 (by omega)
        rw [en, een, est] at this
        omega
      have eln : lnF t N p = m := by unfold lnF; rw [en, een, est]; omega
      refine WW_se (WW_pf rfl (PE_lR rfl) k_305 (PE_lI rfl) (SQ_n ?_))
      rw [up]
      have fin : ∀ X2 : oV, FrT (V 305) X2 → X2 8 0 = k + m → X2 9 0 = kdR (kdF t N p) → X2 10 0 = k → X2 14 0 = 0 → (kdF t N p = 2 ∨ kdF t N p = 0) → (kdF t N p = 2 → X2 13 0 = (m : Int) ∧ X2 17 0 = wv (fun j => t (k + j) - 96) m ∧ ∀ j : Int, 0 ≤ j → j < m → X2 16 j = t (k + j)) → R none c (sO V 305 X2) := fun X2 hf2 a8 a9 a10 a14 hk2 h2 => by
        refine hq X2 hf2 (by rw [hf2 7 (by omega)]; exact h7) ⟨⟨hp, hpN⟩, a14, a9, by rw [est]; exact a10, fun _ => by rw [en, een]; exact a8, fun q => by omega, fun q => by omega, fun q => by omega, fun q => ?_⟩
        unfold wdF
        rw [eln, est]
        exact h2 q
      by_cases hm8 : m ≤ 8
      · have ek : kdF t N p = 2 := by unfold kdF; rw [est, if_neg (by omega), if_pos hlet, een, if_pos (by omega)]
        refine WW_if (PE_cm (PE_lI rfl) PE_kI) (fun _ => WW_pf rfl (PE_lR rfl) k_305 PE_kI (SQ_n (WW_rtV ⟨_, rfl, rfl, ?_⟩))) (fun hb => absurd (show (m : Int) ≤ 8 by omega) (of_decide_eq_false hb))
        rw [up]
        refine fin _ ((hf.ws (by omega) (by omega)).ws (by omega) (by omega)) ?_ ?_ ?_ ?_ (Or.inl ek) fun _ => ⟨?_, ?_, fun j j0 j1 => ?_⟩
        · rw [sF_ne (by decide), sF_ne (by decide)]; exact x8
        · rw [sF_at, ek]; rfl
        · rw [sF_ne (by decide), sF_ne (by decide)]; exact x10
        · rw [sF_ne (by decide), sF_ne (by decide)]; exact x14
        · rw [sF_ne (by decide), sF_at]
        · rw [sF_ne (by decide), sF_ne (by decide), x17, if_pos hm8]
        · rw [sF_ne (by decide), sF_ne (by decide)]; exact x16 j j0 j1 (by omega)
      · have ek : kdF t N p = 0 := by unfold kdF; rw [est, if_neg (by omega), if_pos hlet, een, if_neg (by omega)]
        refine WW_if (PE_cm (PE_lI rfl) PE_kI) (fun hb => absurd (of_decide_eq_true hb) (by omega)) (fun _ => WW_sk (SQ_n (WW_rtV ⟨_, rfl, rfl, ?_⟩)))
        refine fin _ (hf.ws (by omega) (by omega)) ?_ ?_ ?_ ?_ (Or.inr ek) fun q => by omega
        · rw [sF_ne (by decide)]; exact x8
        · rw [sF_ne (by decide), ek]; exact x9
        · rw [sF_ne (by decide)]; exact x10
        · rw [sF_ne (by decide)]; exact x14
  refine WW_if pl (fun hb => absurd hb hlet) (fun _ => ?_)
  have pd := PE_cB (L := [some (vR (some 305)), some (vI (byF t N k)), some (vI 0)]) (c := c) (V := sO V 305 Y) (PE_aCI (PE_lI (i := 1) rfl) PE_a0) hn (px_181 (x := byF t N k)) (by omega : 1 ≤ dd)
  rw [l2] at pd
  by_cases hdig : digB (t k) = true
  · -- a whole
    have en : nxF t N p = enF t N 48 57 k := by unfold nxF; rw [est, if_neg (by omega), if_neg hlet, if_pos hdig]
    refine WW_if pd (fun _ => ?_) (fun hb => by rw [hdig] at hb; cases hb)
    refine WW_se (WW_pf rfl (PE_lR rfl) k_305 PE_kI (SQ_n (WW_se ?_)))
    rw [up]
    refine WW_wh 900000000 (fun r L1 c1 V1 => ∃ (m : Nat) (X : oV), k + m ≤ N ∧ r = (N - (k + m)).toNat ∧ L1 = [some (vR (some 305)), some (vI (byF t N k)), some (vI (m : Int))] ∧ c1 = c ∧ V1 = sO V 305 X ∧ FrT (V 305) X ∧ X 8 0 = k + m ∧ X 9 0 = 0 ∧ X 10 0 = k ∧ X 14 0 = 0 ∧ X 12 0 = vlV t k (if m ≤ 3 then m else 3) ∧ ∀ j : Int, 0 ≤ j → j < m → 48 ≤ t (k + j) ∧ t (k + j) ≤ 57) ?_ (N - k).toNat _ _ _ _ (by omega) ⟨0, _, by omega, by rw [show k + ((0 : Nat) : Int) = k by omega], rfl, rfl, rfl, hfY.ws (by omega) (by omega), by rw [sF_ne (by decide), y8]; omega, by rw [sF_ne (by decide)]; exact y9, by rw [sF_ne (by decide)]; exact y10, by rw [sF_ne (by decide)]; exact y14, by rw [sF_at]; rfl, fun j j0 j1 => by omega⟩
    rintro r k2 _ c _ hk2 ⟨m, X, hmN, rfl, rfl, rfl, rfl, hf, x8, x9, x10, x14, x12, hl⟩
    obtain ⟨-, q1⟩ := by_let (V := V) (k := k + m) ht (by omega)
    have pl2 := PE_cB (PE_aCI (pby (L := [some (vR (some 305)), some (vI (byF t N k)), some (vI (m : Int))]) rfl hf x8 (by omega)) PE_a0) hn (px_181 (x := byF t N (k + m))) (by omega : 1 ≤ dd)
    rw [q1] at pl2
    by_cases hgo : k + m < N ∧ digB (t (k + m)) = true
    · rw [decide_eq_true hgo.1, hgo.2] at pl2
      have hlm := hgo.2
      unfold digB at hlm
      simp only [Bool.and_eq_true, decide_eq_true_eq] at hlm
      have ebm : byF t N (k + m) = t (k + m) := by unfold byF; rw [if_pos hgo.1, if_neg (by omega)]
      refine EE_pe pl2 ⟨fun _ => ?_, fun hb => by cases hb⟩
      have hl' : ∀ j : Int, 0 ≤ j → j < ((m + 1 : Nat) : Int) → 48 ≤ t (k + j) ∧ t (k + j) ≤ 57 := fun j j0 j1 => by
        by_cases e : j = m
        · rw [e]; exact hlm
        · exact hl j j0 (by omega)
      by_cases hm8 : m < 3
      · refine WW_se (WW_if (PE_cm (PE_lI rfl) PE_kI) (fun _ => ?_) (fun hb => absurd (show (m : Int) < 3 by omega) (of_decide_eq_false hb)))
        have p12 := PE_fI (ci := 13) (k := 12) (c := c) (V := sO V 305 X) (L := [some (vR (some 305)), some (vI (byF t N k)), some (vI (m : Int))]) rfl (PE_lR (i := 0) rfl) k_305
        rw [hat, x12, if_pos (by omega)] at p12
        have pb2 := pby (L := [some (vR (some 305)), some (vI (byF t N k)), some (vI (m : Int))]) rfl hf x8 (by omega)
        rw [ebm] at pb2
        have hv := vl_b (s := k) (n := m) hl (by omega)
        refine WW_pf rfl (PE_lR rfl) k_305 (PE_o2 (PE_o2 (PE_o2 PE_kI p12) pb2) PE_kI) (SQ_n ?_)
        have e1 : zSub (zAdd (zMul 10 (vlV t k m)) (t (k + m))) 48 = vlV t k (m + 1) := by
          rw [zMul_id (by omega) (by omega), zAdd_id (by omega) (by omega), zSub_id (by omega) (by omega)]
          rfl
        rw [up, e1]
        refine WW_se (WW_in rfl (SQ_n (WW_pu rfl (PE_lR rfl) k_305 PE_kI (LQ_n (WW_sk ⟨rfl, (N - (k + (m + 1 : Nat))).toNat, by omega, m + 1, sF (sF X 12 (fun _ => vlV t k (m + 1))) 8 (fun _ => k + (m + 1 : Nat)), by omega, rfl, ?_, rfl, ?_, (hf.ws (by omega) (by omega)).ws (by omega) (by omega), by rw [sF_at], ?_, ?_, ?_, ?_, hl'⟩)))))
        · rw [zAdd_id (by omega) (by omega)]; rfl
        · rw [up, hat, sF_ne (by decide), x8, zAdd_id (by omega) (by omega), show k + (m : Int) + 1 = k + ((m + 1 : Nat) : Int) by omega]
        · rw [sF_ne (by decide), sF_ne (by decide)]; exact x9
        · rw [sF_ne (by decide), sF_ne (by decide)]; exact x10
        · rw [sF_ne (by decide), sF_ne (by decide)]; exact x14
        · rw [sF_ne (by decide), sF_at, if_pos (by omega)]
      · refine WW_se (WW_if (PE_cm (PE_lI rfl) PE_kI) (fun hb => absurd (of_decide_eq_true hb) (by omega)) (fun _ => WW_sk (SQ_n ?_)))
        refine WW_se (WW_in rfl (SQ_n (WW_pu rfl (PE_lR rfl) k_305 PE_kI (LQ_n (WW_sk ⟨rfl, (N - (k + (m + 1 : Nat))).toNat, by omega, m + 1, sF X 8 (fun _ => k + (m + 1 : Nat)), by omega, rfl, ?_, rfl, ?_, hf.ws (by omega) (by omega), by rw [sF_at], ?_, ?_, ?_, ?_, hl'⟩)))))
        · rw [zAdd_id (by omega) (by omega)]; rfl
        · rw [up, hat, x8, zAdd_id (by omega) (by omega), show k + (m : Int) + 1 = k + ((m + 1 : Nat) : Int) by omega]
        · rw [sF_ne (by decide)]; exact x9
        · rw [sF_ne (by decide)]; exact x10
        · rw [sF_ne (by decide)]; exact x14
        · rw [sF_ne (by decide), x12]
          by_cases e : m ≤ 3
          · rw [if_pos e, if_neg (by omega), show m = 3 by omega]
          · rw [if_neg e, if_neg (by omega)]
    · have hno : (decide (k + (m : Int) < N) && digB (t (k + m))) = false := by
        cases hh : (decide (k + (m : Int) < N) && digB (t (k + m)))
        · rfl
        · simp only [Bool.and_eq_true, decide_eq_true_eq] at hh
          exact absurd hh hgo
      rw [hno] at pl2
      refine EE_pe pl2 ⟨(fun hb => by cases hb), fun _ => SQ_n ?_⟩
      have een : enF t N 48 57 k = k + m := en_at (by omega) hmN (fun j j0 j1 => by have := hl (j - k) (by omega) (by omega); rw [show k + (j - k) = j by omega] at this; exact this) (fun hlt q => hgo ⟨hlt, by unfold digB; rw [decide_eq_true q.1, decide_eq_true q.2]; rfl⟩)
      have eln : lnF t N p = m := by unfold lnF; rw [en, een, est]; omega
      have fin : ∀ X2 : oV, FrT (V 305) X2 → X2 8 0 = k + m → X2 9 0 = kdR (kdF t N p) → X2 10 0 = k → X2 14 0 = 0 → (kdF t N p = 3 ∨ kdF t N p = 0) → (kdF t N p = 3 → X2 12 0 = vlV t k m) → R none c (sO V 305 X2) := fun X2 hf2 a8 a9 a10 a14 hk2 h2 => by
        refine hq X2 hf2 (by rw [hf2 7 (by omega)]; exact h7) ⟨⟨hp, hpN⟩, a14, a9, by rw [est]; exact a10, fun _ => by rw [en, een]; exact a8, fun q => by omega, fun q => by omega, fun q => ?_, fun q => by omega⟩
        unfold vlF
        rw [eln, est]
        exact h2 q
      by_cases hm8 : m ≤ 3
      · have ek : kdF t N p = 3 := by unfold kdF; rw [est, if_neg (by omega), if_neg hlet, if_pos hdig, een, if_pos (by omega)]
        refine WW_if (PE_cm (PE_lI rfl) PE_kI) (fun _ => WW_pf rfl (PE_lR rfl) k_305 PE_kI (SQ_n (WW_rtV ⟨_, rfl, rfl, ?_⟩))) (fun hb => absurd (show (m : Int) ≤ 3 by omega) (of_decide_eq_false hb))
        rw [up]
        refine fin _ (hf.ws (by omega) (by omega)) ?_ ?_ ?_ ?_ (Or.inl ek) fun _ => ?_
        · rw [sF_ne (by decide)]; exact x8
        · rw [sF_at, ek]; rfl
        · rw [sF_ne (by decide)]; exact x10
        · rw [sF_ne (by decide)]; exact x14
        · rw [sF_ne (by decide), x12, if_pos hm8]
      · have ek : kdF t N p = 0 := by unfold kdF; rw [est, if_neg (by omega), if_neg hlet, if_pos hdig, een, if_neg (by omega)]
        refine WW_if (PE_cm (PE_lI rfl) PE_kI) (fun hb => absurd (of_decide_eq_true hb) (by omega)) (fun _ => WW_sk (SQ_n (WW_rtV ⟨_, rfl, rfl, ?_⟩)))
        exact fin _ hf x8 (by rw [ek]; exact x9) x10 x14 (Or.inr ek) fun q => by omega
  refine WW_if pd (fun hb => absurd hb hdig) (fun _ => ?_)
  have en : nxF t N p = k + 1 := by unfold nxF; rw [est, if_neg (by omega), if_neg hlet, if_neg hdig]
  have ebk : (byF t N k = 59 ↔ t k = 59) ∧ (byF t N k = 44 ↔ t k = 44) := by
    unfold byF
    rw [if_pos hkN]
    split <;> omega
  have hcond := PE_or (PE_cm (op := .eq) (PE_lI (i := 1) (L := [some (vR (some 305)), some (vI (byF t N k)), some (vI 0)]) (c := c) (V := sO V 305 Y) rfl) (PE_kI (z := 59))) (fun _ => PE_cm (op := .eq) (PE_lI (i := 1) rfl) (PE_kI (z := 44)))
  by_cases hsg : t k = 59 ∨ t k = 44
  · have ecb : (cmB ClassFile.Cond.eq (byF t N k) 59 || cmB ClassFile.Cond.eq (byF t N k) 44) = true := by
      simp only [cmB, Bool.or_eq_true, decide_eq_true_eq]
      rw [ebk.1, ebk.2]
      exact hsg
    rw [ecb] at hcond
    refine WW_if hcond (fun _ => ?_) (fun hb => by cases hb)
    refine WW_se (WW_pf rfl (PE_lR rfl) k_305 PE_kI (SQ_n (WW_se (WW_pf rfl (PE_lR rfl) k_305 (PE_lI rfl) (SQ_n (WW_pu rfl (PE_lR rfl) k_305 PE_kI (SQ_n (WW_rtV ⟨_, rfl, rfl, ?_⟩))))))))
    rw [up, up, up, hat, sF_ne (by decide), sF_ne (by decide), y8, zAdd_id (by omega) (by omega)]
    have ek : kdF t N p = if t k = 59 then 4 else 5 := by
      unfold kdF
      rw [est, if_neg (by omega), if_neg hlet, if_neg hdig]
      split
      · rfl
      · rw [if_pos (by omega)]
    refine hq _ (((hfY.ws (by omega) (by omega)).ws (by omega) (by omega)).ws (by omega) (by omega)) ?_ ⟨⟨hp, hpN⟩, ?_, ?_, ?_, fun _ => ?_, fun q => ?_, fun q => ?_, fun q => ?_, fun q => ?_⟩
    · rw [sF_ne (by decide), sF_ne (by decide), sF_ne (by decide), hfY 7 (by omega)]; exact h7
    · rw [sF_ne (by decide), sF_ne (by decide), sF_ne (by decide)]; exact y14
    · rw [sF_ne (by decide), sF_ne (by decide), sF_at, ek]
      unfold kdR
      split <;> split <;> omega
    · rw [sF_ne (by decide), sF_ne (by decide), sF_ne (by decide), est]; exact y10
    · rw [sF_at, en]
    · rw [sF_ne (by decide), sF_at, ebk.1]
      rw [ek] at q
      by_cases e : t k = 59
      · exact e
      · rw [if_neg e] at q; omega
    · rw [sF_ne (by decide), sF_at, ebk.2]
      rw [ek] at q
      by_cases e : t k = 59
      · rw [if_pos e] at q; omega
      · omega
    · rw [ek] at q; split at q <;> omega
    · rw [ek] at q; split at q <;> omega
  · have ecb : (cmB ClassFile.Cond.eq (byF t N k) 59 || cmB ClassFile.Cond.eq (byF t N k) 44) = false := by
      cases hh : (cmB ClassFile.Cond.eq (byF t N k) 59 || cmB ClassFile.Cond.eq (byF t N k) 44)
      · rfl
      · simp only [cmB, Bool.or_eq_true, decide_eq_true_eq] at hh
        rw [ebk.1, ebk.2] at hh
        exact absurd hh hsg
    rw [ecb] at hcond
    have ek : kdF t N p = 0 := by
      unfold kdF
      rw [est, if_neg (by omega), if_neg hlet, if_neg hdig, if_neg (by omega), if_neg (by omega)]
    refine WW_if hcond (fun hb => by cases hb) (fun _ => WW_sk (SQ_n (WW_rtV ⟨_, rfl, rfl, ?_⟩)))
    exact hq Y hfY (by rw [hfY 7 (by omega)]; exact h7) ⟨⟨hp, hpN⟩, y14, by rw [ek]; exact y9, by rw [est]; exact y10, fun q => absurd ek q, fun q => by omega, fun q => by omega, fun q => by omega, fun q => by omega⟩
end RK
