/-! DRIFT: chances, the greatest common divisor -/
def potE : Nat → Nat
  | 0 => 0
  | k + 1 => potE k + potE k / 2 + 1
theorem potE_big : 1000000000000000 ≤ potE 199 := by decide +kernel
theorem potE_step {x y k : Nat} (hy : 0 < y) (hyx : y ≤ x) (h : x + y ≤ potE (k + 1)) : y + x % y ≤ potE k := by
  have h1 : x % y < y := Nat.mod_lt _ hy
  have h2 := Nat.div_add_mod x y
  have h3 : 1 ≤ x / y := (Nat.one_le_div_iff hy).mpr hyx
  have h4 : y * 1 ≤ y * (x / y) := Nat.mul_le_mul_left y h3
  have h5 : x + y ≤ potE k + potE k / 2 + 1 := h
  omega
theorem gcd_step {x y : Nat} : Nat.gcd y (x % y) = Nat.gcd x y := by
  rw [Nat.gcd_comm y, ← Nat.gcd_rec, Nat.gcd_comm]
theorem lRem_n {x y : Nat} : lRem (x : Int) (y : Int) = ((x % y : Nat) : Int) := by
  unfold lRem
  rw [Int.tmod_eq_emod_of_nonneg (by omega)]
  rfl
/-- one day -/
def stp (P r w : Int) (f : Int → Int) (k : Int) : Int := f k * (w - r * (if k = 0 ∨ k = P - 1 then 1 else 2)) + (if 0 < k then f (k - 1) * r else 0) + (if k + 1 < P then f (k + 1) * r else 0)
theorem mul_b {x M y : Int} (h0 : 0 ≤ x) (h1 : x ≤ M) (hy : 0 ≤ y) : 0 ≤ x * y ∧ x * y ≤ M * y := ⟨Int.mul_nonneg h0 hy, Int.mul_le_mul_of_nonneg_right h1 hy⟩
theorem stp_le {P r w M : Int} {f : Int → Int} (hP : 2 ≤ P) (hr : 0 ≤ r) (hr1 : r ≤ 100) (hw : w = 100 * (P - 1)) (hf : ∀ k, 0 ≤ k → k < P → 0 ≤ f k ∧ f k ≤ M) {k : Int} (hk : 0 ≤ k) (hk1 : k < P) : 0 ≤ stp P r w f k ∧ stp P r w f k ≤ M * w := by
  unfold stp
  have a := hf k hk hk1
  have e1 : M * (w - r * 1) = M * w - M * r := by rw [Int.mul_sub, Int.mul_one]
  have e2 : M * (w - r * 2) = M * w - M * r - M * r := by rw [Int.mul_sub, ← Int.mul_assoc]; omega
  by_cases h0 : k = 0
  · have b := hf (k + 1) (by omega) (by omega)
    rw [if_pos (Or.inl h0), if_neg (by omega), if_pos (by omega)]
    have p1 := mul_b a.1 a.2 (show 0 ≤ w - r * 1 by omega)
    have p2 := mul_b b.1 b.2 hr
    omega
  · have b := hf (k - 1) (by omega) (by omega)
    have p2 := mul_b b.1 b.2 hr
    by_cases h1 : k = P - 1
    · rw [if_pos (Or.inr h1), if_pos (by omega), if_neg (by omega)]
      have p1 := mul_b a.1 a.2 (show 0 ≤ w - r * 1 by omega)
      omega
    · have b2 := hf (k + 1) (by omega) (by omega)
      have p3 := mul_b b2.1 b2.2 hr
      rw [if_neg (by omega), if_pos (by omega), if_pos (by omega)]
      have p1 := mul_b a.1 a.2 (show 0 ≤ w - r * 2 by omega)
      omega
/-- as the class does it -/
def stc (r w : Int) (f : Int → Int) (j k : Int) : Int := f k * w + (if k < j then r * (f (k + 1) - f k) else 0) - (if 0 < k ∧ k ≤ j then r * (f k - f (k - 1)) else 0)
theorem stc_eq {P r w : Int} {f : Int → Int} {k : Int} (hP : 2 ≤ P) (hk : 0 ≤ k) (hk1 : k < P) : stc r w f (P - 1) k = stp P r w f k := by
  unfold stc stp
  have e1 : f k * (w - r * 1) = f k * w - f k * r := by rw [Int.mul_sub, Int.mul_one]
  have e2 : f k * (w - r * 2) = f k * w - f k * r - f k * r := by rw [Int.mul_sub, ← Int.mul_assoc]; omega
  have e3 : r * (f (k + 1) - f k) = f (k + 1) * r - f k * r := by rw [Int.mul_comm, Int.sub_mul]
  have e4 : r * (f k - f (k - 1)) = f k * r - f (k - 1) * r := by rw [Int.mul_comm, Int.sub_mul]
  by_cases h0 : k = 0
  · rw [if_pos (by omega), if_neg (by omega), if_pos (Or.inl h0), if_neg (by omega), if_pos (by omega)]
    omega
  · by_cases h1 : k = P - 1
    · rw [if_neg (by omega), if_pos (by omega), if_pos (Or.inr h1), if_pos (by omega), if_neg (by omega)]
      omega
    · rw [if_pos (by omega), if_pos (by omega), if_neg (by omega), if_pos (by omega), if_pos (by omega)]
      omega
def chF (P r w pl : Int) : Nat → Int → Int
  | 0 => fun k => if k = pl then 1 else 0
  | t + 1 => stp P r w (chF P r w pl t)
def pw (w : Int) : Nat → Int
  | 0 => 1
  | t + 1 => pw w t * w
def pwB : Nat → Int
  | 0 => 1
  | t + 1 => pwB t * 700
theorem pw_le {w : Int} (h1 : 1 ≤ w) (h2 : w ≤ 700) : ∀ {t : Nat}, 1 ≤ pw w t ∧ pw w t ≤ pwB t
  | 0 => ⟨Int.le_refl _, Int.le_refl _⟩
  | t + 1 => by
    have ih := pw_le h1 h2 (t := t)
    show 1 ≤ pw w t * w ∧ pw w t * w ≤ pwB t * 700
    constructor
    · have := Int.mul_le_mul_of_nonneg_left h1 (show 0 ≤ pw w t by omega)
      omega
    · exact Int.mul_le_mul ih.2 h2 (by omega) (by omega)
theorem pwB_le : ∀ {t : Nat}, t ≤ 5 → pwB t ≤ 168070000000000
  | 0, _ => by decide
  | 1, _ => by decide
  | 2, _ => by decide
  | 3, _ => by decide
  | 4, _ => by decide
  | 5, _ => by decide
  | t + 6, h => by omega
theorem chF_le {P r w pl : Int} (hP : 2 ≤ P) (hr : 0 ≤ r) (hr1 : r ≤ 100) (hw : w = 100 * (P - 1)) : ∀ {t : Nat} {k : Int}, 0 ≤ k → k < P → 0 ≤ chF P r w pl t k ∧ chF P r w pl t k ≤ pw w t
  | 0, k, _, _ => by
    show 0 ≤ (if k = pl then (1 : Int) else 0) ∧ (if k = pl then (1 : Int) else 0) ≤ 1
    split <;> omega
  | t + 1, k, h0, h1 => stp_le hP hr hr1 hw (fun j j0 j1 => chF_le hP hr hr1 hw j0 j1) h0 h1
theorem lAdd_id2 {x y : Int} (h1 : -9000000000000000000 ≤ x + y) (h2 : x + y ≤ 9000000000000000000) : lAdd x y = x + y := lAdd_id (by omega) (by omega)
theorem lSub_id {x y : Int} (h1 : -9000000000000000000 ≤ x - y) (h2 : x - y ≤ 9000000000000000000) : lSub x y = x - y := by
  unfold lSub wl
  exact Int.bmod_eq_of_le (by omega) (by omega)
theorem lMul_id2 {x y : Int} (h1 : -9000000000000000000 ≤ x * y) (h2 : x * y ≤ 9000000000000000000) : lMul x y = x * y := lMul_id (by omega) (by omega)
section DR1
variable {c : cT} {V : Mem} {R : Option gAV → cT → Mem → Prop}
theorem pc_28 {a b : Nat} (ha : a ≤ 400000000000000) (hb0 : 0 < b) (hb : b ≤ 400000000000000) : PC 1 28 [vL (a : Int), vL (b : Int)] c V (some (vL ((Nat.gcd a b : Nat) : Int))) := by
  have hpb := potE_big
  refine PC_of ?_
  refine CC_of mt_28 gb_28 (by decide) (by decide) rcb_s (Nat.le_of_ble_eq_true rfl) fun n dd hn hd => ?_
  show WW (bX2_commonDivisor (gOr n dd)) n [some (vL (↑a)), none, some (vL (↑b)), none, none, none, none, none, none, none, none] _ _ _
  unfold bX2_commonDivisor
  have hn0 : 1000000000 ≤ n := hn
  refine WW_se (WW_stL (PE_lL rfl) (SQ_n (WW_se (WW_stL (PE_lL rfl) (SQ_n (WW_se (WW_se (WW_st PE_kI (SQ_n ?_)))))))))
  refine WW_wh 900000000 (fun r L1 c1 V1 => ∃ (x y : Nat) (z : Option gAV), r ≤ 200 ∧ L1 = [some (vL (a : Int)), none, some (vL (b : Int)), none, some (vL (x : Int)), none, some (vL (y : Int)), none, some (vI (200 - (r : Int))), z, none] ∧ c1 = c ∧ V1 = V ∧ Nat.gcd x y = Nat.gcd a b ∧ 0 < x + y ∧ ((r = 200 ∧ x = a ∧ y = b) ∨ (y ≤ x ∧ x + y ≤ potE r))) ?_ 200 _ _ _ _ (by omega) ⟨a, b, none, by omega, rfl, rfl, rfl, rfl, by omega, Or.inl ⟨rfl, rfl, rfl⟩⟩
  rintro r k _ c V hk ⟨x, y, z, hr, rfl, rfl, rfl, hg, hxy, hcase⟩
  by_cases hy : y = 0
  · subst hy
    refine EE_pe (PE_and (PE_cm (PE_lI rfl) PE_kI) (fun _ => PE_cm (PE_lL rfl) PE_kI)) ⟨fun hb => ?_, fun _ => ?_⟩
    · simp [cmB] at hb
    · rw [← hg, Nat.gcd_zero_right]
      exact SQ_n (WW_rtL (PE_lL rfl) ⟨_, rfl, rfl, rfl, rfl, rfl⟩)
  · have hr0 : r ≠ 0 := fun e => by
      subst e
      rcases hcase with q | ⟨q1, q2⟩
      · omega
      · have : potE 0 = 0 := rfl
        omega
    obtain ⟨r', rfl⟩ : ∃ r', r = r' + 1 := ⟨r - 1, by omega⟩
    have hlt : (200 - ((r' + 1 : Nat) : Int)) < 200 := by omega
    have hyI : ¬ (y : Int) = 0 := by omega
    have hmod : x % y < y := Nat.mod_lt _ (by omega)
    refine EE_pe (PE_and (PE_cm (PE_lI rfl) PE_kI) (fun _ => PE_cm (PE_lL rfl) PE_kI)) ⟨fun _ => ?_, fun hb => ?_⟩
    · refine WW_se (WW_stL (PE_o2p (PE_lL rfl) (PE_lL rfl) hyI) (SQ_n (WW_se (WW_stL (PE_lL rfl) (SQ_n (WW_stL (PE_lL rfl) (LQ_n (WW_in rfl ⟨rfl, r', by omega, y, x % y, some (vL ((x % y : Nat) : Int)), by omega, ?_, rfl, rfl, ?_, by omega, Or.inr ⟨by omega, ?_⟩⟩))))))))
      · rw [lRem_n, zAdd_id (by omega) (by omega)]
        have e : (200 - ((r' + 1 : Nat) : Int)) + 1 = 200 - (r' : Int) := by omega
        rw [e]
        rfl
      · rw [gcd_step]; exact hg
      · rcases hcase with ⟨q1, q2, q3⟩ | ⟨q1, q2⟩
        · have : r' = 199 := by omega
          subst this
          omega
        · exact potE_step (by omega) q1 q2
    · simp only [Bool.and_eq_false_iff, cmB, decide_eq_false_iff_not] at hb
      rcases hb with hb | hb
      · exact absurd hlt hb
      · exact absurd hyI (fun q => hb q)
end DR1
