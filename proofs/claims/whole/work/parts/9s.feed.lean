/-! FEED -/
theorem zByte_zByte {x : Int} : zByte (zByte x) = zByte x := by
  unfold zByte
  exact Int.bmod_bmod
theorem zByte_le {x : Int} : -128 ≤ zByte x ∧ zByte x ≤ 127 := by
  unfold zByte
  have h1 := Int.le_bmod (x := x) (m := 256) (by decide)
  have h2 := Int.bmod_lt (x := x) (m := 256) (by decide)
  omega
/-- the k-th byte of five numbers -/
def bt5 (a b c d e : Int) (k : Nat) : Int := zByte (zShr (if k < 4 then a else if k < 8 then b else if k < 12 then c else if k < 16 then d else e) (24 - 8 * ((k : Int) % 4)))
def fdn (f : Int → Int) (n : Int) (bt : Nat → Int) : Nat → Int → Int
  | 0 => f
  | k + 1 => gUz (fdn f n bt k) (n + k) (bt k)
theorem fdn_ext {f f' : Int → Int} {n : Int} {bt : Nat → Int} (h : ∀ i, 0 ≤ i → i < 1000 → f i = f' i) : ∀ {k : Nat} {i : Int}, 0 ≤ i → i < 1000 → fdn f n bt k i = fdn f' n bt k i
  | 0, i, h0, h1 => h i h0 h1
  | k + 1, i, h0, h1 => by
    show gUz _ _ _ i = gUz _ _ _ i
    unfold gUz
    split
    · rfl
    · exact fdn_ext h h0 h1
theorem fdn_le {f : Int → Int} {n : Int} {bt : Nat → Int} (h : ∀ i, 0 ≤ i → i < 1000 → -128 ≤ f i ∧ f i ≤ 127) (hb : ∀ k, -128 ≤ bt k ∧ bt k ≤ 127) : ∀ {k : Nat} {i : Int}, 0 ≤ i → i < 1000 → -128 ≤ fdn f n bt k i ∧ fdn f n bt k i ≤ 127
  | 0, i, h0, h1 => h i h0 h1
  | k + 1, i, h0, h1 => by
    show -128 ≤ gUz _ _ _ i ∧ gUz _ _ _ i ≤ 127
    unfold gUz
    split
    · exact hb k
    · exact fdn_le h hb h0 h1
theorem fdn_add {f : Int → Int} {n : Int} {bt : Nat → Int} {k : Nat} : ∀ {j : Nat}, fdn (fdn f n bt k) (n + k) (fun q => bt (k + q)) j = fdn f n bt (k + j)
  | 0 => rfl
  | j + 1 => by
    show gUz (fdn (fdn f n bt k) (n + k) (fun q => bt (k + q)) j) (n + k + j) (bt (k + j)) = gUz (fdn f n bt (k + j)) (n + ((k + j : Nat) : Int)) (bt (k + j))
    rw [fdn_add, Int.natCast_add, Int.add_assoc]
section FE
variable {c : cT} {V : Mem} {R : Option gAV → cT → Mem → Prop}
theorem cc_157 {x : Int} {bt : Nat → Int} (h0 : 0 ≤ V 0 1 0) (h1 : V 0 1 0 + 4 ≤ 1000) (hb : ∀ k : Nat, k < 4 → bt k = zByte (zShr x (24 - 8 * (k : Int)))) (hq : R none c (sM (sM V 0 0 (fdn (V 0 0) (V 0 1 0) bt 4)) 0 1 (fun _ => V 0 1 0 + 4))) : CC 1 157 [vR (some 0), vI x] c V R := by
  refine CC_of mt_157 gb_157 (by decide) (by decide) (rcb_o k_0) (Nat.le_of_ble_eq_true rfl) fun n dd hn hd => ?_
  show WW (bX11_append (gOr n dd)) n [some (vR (some (0))), some (vI (x)), none] _ _ _
  unfold bX11_append
  have hn0 : 1000000000 ≤ n := hn
  refine WW_se (WW_se (WW_st PE_kI (SQ_n ?_)))
  refine WW_wh 900000000 (fun r L1 c1 V1 => ∃ (k : Nat) (w : Int → Int), r = 4 - k ∧ k ≤ 4 ∧ L1 = [some (vR (some 0)), some (vI x), some (vI (24 - 8 * (k : Int)))] ∧ c1 = c ∧ V1 = sM (sM V 0 0 (fdn (V 0 0) (V 0 1 0) bt k)) 0 1 w ∧ w 0 = V 0 1 0 + k ∧ (k = 4 → w = fun _ => V 0 1 0 + 4)) ?_ 4 _ _ _ _ (by omega) ⟨0, V 0 1, rfl, by omega, rfl, rfl, ?_, by omega, by omega⟩
  · rintro r k' _ c _ hk ⟨k, w, rfl, hk4, rfl, rfl, rfl, hw, hw4⟩
    have e1 : sM (sM V 0 0 (fdn (V 0 0) (V 0 1 0) bt k)) 0 1 w 0 1 0 = V 0 1 0 + k := by rw [sM_at]; exact hw
    have e0 : sM (sM V 0 0 (fdn (V 0 0) (V 0 1 0) bt k)) 0 1 w 0 0 = fdn (V 0 0) (V 0 1 0) bt k := by rw [sM_k (by decide), sM_at]
    by_cases hlt : k < 4
    · have hs : (0 : Int) ≤ 24 - 8 * (k : Int) := by omega
      refine EE_pe (PE_and (PE_cz (PE_lI rfl)) (fun _ => PE_cm (PE_fI rfl (PE_lR rfl) k_0) PE_kI)) ⟨fun _ => ?_, fun hb => ?_⟩
      · refine WW_se (WW_asF (ty := 1) (z := bt k) rfl (by decide) (PE_lR rfl) k_0 (PE_fI rfl (PE_lR rfl) k_0) (by rw [e1]; omega) (by rw [e1]; omega) (PE_o1 (PE_o2 (PE_lI rfl) (PE_lI rfl))) (by rw [hb k hlt]; show some (zByte _) = _; rw [zByte_zByte]) (SQ_n ?_))
        rw [e0, e1]
        refine WW_pu rfl (PE_lR rfl) k_0 PE_kI (LQ_n (WW_in rfl ⟨rfl, 4 - (k + 1), by omega, k + 1, fun _ => V 0 1 0 + ((k + 1 : Nat) : Int), rfl, by omega, ?_, rfl, ?_, rfl, fun q => ?_⟩))
        · show [some (vR (some 0)), some (vI x), some (vI (zAdd (24 - 8 * (k : Int)) (-8)))] = _
          rw [zAdd_id (by omega) (by omega)]
          refine congrArg (fun z => [some (vR (some 0)), some (vI x), some (vI z)]) ?_
          omega
        · have e2 : sM (sM (sM V 0 0 (fdn (V 0 0) (V 0 1 0) bt k)) 0 1 w) 0 0 (gUz (fdn (V 0 0) (V 0 1 0) bt k) (V 0 1 0 + k) (bt k)) 0 1 0 = V 0 1 0 + k := by rw [sM_k (by decide), sM_at]; exact hw
          rw [e2, zAdd_id (by omega) (by omega)]
          funext b q
          by_cases hb0 : b = 0
          · subst hb0
            by_cases q1 : q = 1
            · subst q1
              rw [sM_at, sM_at]
              funext _
              omega
            · rw [sM_k q1, sM_k q1]
              by_cases q0 : q = 0
              · subst q0
                rw [sM_at, sM_at]
                rfl
              · rw [sM_k q0, sM_k q1, sM_k q0, sM_k q0]
          · rw [sM_o hb0, sM_o hb0, sM_o hb0, sM_o hb0, sM_o hb0, sM_o hb0]
        · have : k = 3 := by omega
          subst this
          rfl
      · simp only [Bool.and_eq_false_iff, cmB, decide_eq_false_iff_not] at hb
        omega
    · have hk5 : k = 4 := by omega
      subst hk5
      rw [hw4 rfl]
      refine EE_pe (PE_and (b' := true) (PE_cz (PE_lI rfl)) (fun hb => ?_)) ⟨fun hb => ?_, fun _ => SQ_n (WW_rtV ⟨_, rfl, rfl, hq⟩)⟩
      · simp [cmB] at hb
      · simp [cmB] at hb
  · show V = sM (sM V 0 0 (V 0 0)) 0 1 (V 0 1)
    rw [sM_id, sM_id]
theorem cc_88 {a b x d e : Int} (h0 : 0 ≤ V 0 1 0) (h1 : V 0 1 0 ≤ 1000) (hq1 : V 0 1 0 + 20 ≤ 1000 → R (some (vI (V 0 1 0 + 20))) c (sM (sM V 0 0 (fdn (V 0 0) (V 0 1 0) (bt5 a b x d e) 20)) 0 1 (fun _ => V 0 1 0 + 20))) (hq2 : ¬ V 0 1 0 + 20 ≤ 1000 → R (some (vI (-1))) c V) : CC 3 88 [vR (some 0), vI a, vI b, vI x, vI d, vI e] c V R := by
  have ez : zAdd (V 0 1 0) 20 = V 0 1 0 + 20 := zAdd_id (by omega) (by omega)
  refine CC_of mt_88 gb_88 (by decide) (by decide) (rcb_o k_0) (Nat.le_of_ble_eq_true rfl) fun n dd hn hd => ?_
  show WW (bX11_feed (gOr n dd)) n [some (vR (some (0))), some (vI (a)), some (vI (b)), some (vI (x)), some (vI (d)), some (vI (e))] _ _ _
  unfold bX11_feed
  have hn0 : 1000000000 ≤ n := hn
  by_cases hc : V 0 1 0 + 20 ≤ 1000
  · have hq := hq1 hc
    clear hq1 hq2
    refine WW_se (WW_if (PE_cm (PE_o2 (PE_fI rfl (PE_lR rfl) k_0) PE_kI) PE_kI) (fun hb => ?_) (fun _ => WW_sk (SQ_n ?_)))
    · have := of_decide_eq_true hb
      rw [ez] at this
      omega
    have key : ∀ (j : Nat) (W : Mem), W = sM (sM V 0 0 (fdn (V 0 0) (V 0 1 0) (bt5 a b x d e) j)) 0 1 (fun _ => V 0 1 0 + j) → W 0 0 = fdn (V 0 0) (V 0 1 0) (bt5 a b x d e) j ∧ W 0 1 0 = V 0 1 0 + j ∧ sM (sM W 0 0 (fdn (W 0 0) (W 0 1 0) (fun q => bt5 a b x d e (j + q)) 4)) 0 1 (fun _ => W 0 1 0 + 4) = sM (sM V 0 0 (fdn (V 0 0) (V 0 1 0) (bt5 a b x d e) (j + 4))) 0 1 (fun _ => V 0 1 0 + ((j + 4 : Nat) : Int)) := by
      rintro j W rfl
      have e0 : sM (sM V 0 0 (fdn (V 0 0) (V 0 1 0) (bt5 a b x d e) j)) 0 1 (fun _ => V 0 1 0 + j) 0 0 = fdn (V 0 0) (V 0 1 0) (bt5 a b x d e) j := by rw [sM_k (by decide), sM_at]
      have e1 : sM (sM V 0 0 (fdn (V 0 0) (V 0 1 0) (bt5 a b x d e) j)) 0 1 (fun _ => V 0 1 0 + j) 0 1 0 = V 0 1 0 + j := by rw [sM_at]
      refine ⟨e0, e1, ?_⟩
      rw [e0, e1, fdn_add]
      funext y q
      by_cases hb0 : y = 0
      · subst hb0
        by_cases q1 : q = 1
        · subst q1
          rw [sM_at, sM_at]
          funext _
          omega
        · rw [sM_k q1, sM_k q1]
          by_cases q0 : q = 0
          · subst q0
            rw [sM_at, sM_at]
          · rw [sM_k q0, sM_k q1, sM_k q0, sM_k q0]
      · rw [sM_o hb0, sM_o hb0, sM_o hb0, sM_o hb0, sM_o hb0, sM_o hb0]
    refine WW_se (WW_cVx hn (EE_pe (PE_aCR (PE_lR rfl) (PE_aCI (PE_lI rfl) PE_a0)) (cc_157 (bt := bt5 a b x d e) h0 (by omega) (fun k hk => ?_) (ex_V (SQ_n ?_)))) (by omega))
    · unfold bt5
      rw [if_pos hk]
      congr 2
      omega
    have e4 : (V 0 1 0 + 4 : Int) = V 0 1 0 + ((4 : Nat) : Int) := rfl
    rw [e4]
    obtain ⟨W1, hW1⟩ : ∃ W, W = sM (sM V 0 0 (fdn (V 0 0) (V 0 1 0) (bt5 a b x d e) 4)) 0 1 (fun _ => V 0 1 0 + ((4 : Nat) : Int)) := ⟨_, rfl⟩
    obtain ⟨-, w1, w2⟩ := key 4 W1 hW1
    rw [← hW1]
    refine WW_se (WW_cVx hn (EE_pe (PE_aCR (PE_lR rfl) (PE_aCI (PE_lI rfl) PE_a0)) (cc_157 (bt := fun q => bt5 a b x d e (4 + q)) (by omega) (by omega) (fun k hk => ?_) (ex_V (SQ_n ?_)))) (by omega))
    · unfold bt5
      rw [if_neg (by omega), if_pos (by omega)]
      congr 2
      omega
    rw [w2]
    obtain ⟨W2, hW2⟩ : ∃ W, W = sM (sM V 0 0 (fdn (V 0 0) (V 0 1 0) (bt5 a b x d e) 8)) 0 1 (fun _ => V 0 1 0 + ((8 : Nat) : Int)) := ⟨_, rfl⟩
    obtain ⟨-, x1, x2⟩ := key 8 W2 hW2
    rw [← hW2]
    refine WW_se (WW_cVx hn (EE_pe (PE_aCR (PE_lR rfl) (PE_aCI (PE_lI rfl) PE_a0)) (cc_157 (bt := fun q => bt5 a b x d e (8 + q)) (by omega) (by omega) (fun k hk => ?_) (ex_V (SQ_n ?_)))) (by omega))
    · unfold bt5
      rw [if_neg (by omega), if_neg (by omega), if_pos (by omega)]
      congr 2
      omega
    rw [x2]
    obtain ⟨W3, hW3⟩ : ∃ W, W = sM (sM V 0 0 (fdn (V 0 0) (V 0 1 0) (bt5 a b x d e) 12)) 0 1 (fun _ => V 0 1 0 + ((12 : Nat) : Int)) := ⟨_, rfl⟩
    obtain ⟨-, y1, y2⟩ := key 12 W3 hW3
    rw [← hW3]
    refine WW_se (WW_cVx hn (EE_pe (PE_aCR (PE_lR rfl) (PE_aCI (PE_lI rfl) PE_a0)) (cc_157 (bt := fun q => bt5 a b x d e (12 + q)) (by omega) (by omega) (fun k hk => ?_) (ex_V (SQ_n ?_)))) (by omega))
    · unfold bt5
      rw [if_neg (by omega), if_neg (by omega), if_neg (by omega), if_pos (by omega)]
      congr 2
      omega
    rw [y2]
    obtain ⟨W4, hW4⟩ : ∃ W, W = sM (sM V 0 0 (fdn (V 0 0) (V 0 1 0) (bt5 a b x d e) 16)) 0 1 (fun _ => V 0 1 0 + ((16 : Nat) : Int)) := ⟨_, rfl⟩
    obtain ⟨-, z1, z2⟩ := key 16 W4 hW4
    rw [← hW4]
    refine WW_se (WW_cVx hn (EE_pe (PE_aCR (PE_lR rfl) (PE_aCI (PE_lI rfl) PE_a0)) (cc_157 (bt := fun q => bt5 a b x d e (16 + q)) (by omega) (by omega) (fun k hk => ?_) (ex_V (SQ_n ?_)))) (by omega))
    · unfold bt5
      rw [if_neg (by omega), if_neg (by omega), if_neg (by omega), if_neg (by omega)]
      congr 2
      omega
    rw [z2]
    refine WW_rt (PE_fI rfl (PE_lR rfl) k_0) ⟨_, rfl, rfl, ?_⟩
    rw [sM_at]
    exact hq
  · have hq := hq2 hc
    clear hq1 hq2
    refine WW_se (WW_if (PE_cm (PE_o2 (PE_fI rfl (PE_lR rfl) k_0) PE_kI) PE_kI) (fun hb => WW_rt PE_kI (SQ_s ⟨_, rfl, rfl, hq⟩)) (fun hb => ?_))
    have := of_decide_eq_false hb
    rw [ez] at this
    omega
end FE
