/-! THE TEXT: its tokens; words as numbers -/
def wv (a : Int → Int) (n : Nat) : Int := it (fun k v => 32 * v + a k) n 0
theorem wv_s {a : Int → Int} {n : Nat} : wv a (n + 1) = 32 * wv a n + a n := rfl
theorem wv_0 {a : Int → Int} {n : Nat} (h : ∀ k : Int, 0 ≤ k → k < n → 1 ≤ a k ∧ a k ≤ 31) : 0 ≤ wv a n ∧ (wv a n = 0 ↔ n = 0) := by
  induction n with
  | zero => exact ⟨Int.le_refl _, ⟨fun _ => rfl, fun _ => rfl⟩⟩
  | succ n ih =>
    obtain ⟨i1, i2⟩ := ih fun k k0 k1 => h k k0 (by omega)
    have hn := h n (by omega) (by omega)
    rw [wv_s]
    omega
theorem wv_cg {a b : Int → Int} {n : Nat} (h : ∀ k : Int, 0 ≤ k → k < n → a k = b k) : wv a n = wv b n := it_congr fun k k0 k1 x => by rw [h k k0 k1]
theorem wv_inj {a b : Int → Int} : ∀ {n m : Nat}, (∀ k : Int, 0 ≤ k → k < n → 1 ≤ a k ∧ a k ≤ 31) → (∀ k : Int, 0 ≤ k → k < m → 1 ≤ b k ∧ b k ≤ 31) → wv a n = wv b m → n = m ∧ ∀ k : Int, 0 ≤ k → k < n → a k = b k
  | 0, m, _, hb, h => by
    have := (wv_0 hb).2.mp h.symm
    exact ⟨this.symm, fun k k0 k1 => by omega⟩
  | n + 1, 0, ha, _, h => by
    have := (wv_0 ha).2.mp h
    omega
  | n + 1, m + 1, ha, hb, h => by
    rw [wv_s, wv_s] at h
    have a1 := ha n (by omega) (by omega)
    have b1 := hb m (by omega) (by omega)
    have e1 : a n = b m := by omega
    have e2 : wv a n = wv b m := by omega
    obtain ⟨i1, i2⟩ := wv_inj (fun k k0 k1 => ha k k0 (by omega)) (fun k k0 k1 => hb k k0 (by omega)) e2
    refine ⟨by omega, fun k k0 k1 => ?_⟩
    by_cases e : k = n
    · rw [e, e1]
      congr 1
      omega
    · exact i2 k k0 (by omega)
theorem wv_le {a : Int → Int} {n : Nat} (h : ∀ k : Int, 0 ≤ k → k < n → 1 ≤ a k ∧ a k ≤ 31) : ∀ {m : Nat}, m ≤ n → 0 ≤ wv a m ∧ wv a m < 32 ^ m
  | 0, _ => ⟨Int.le_refl _, by show (0 : Int) < 1; decide⟩
  | m + 1, hm => by
    have ih := wv_le h (m := m) (by omega)
    have a1 := h m (by omega) (by omega)
    rw [wv_s, Int.pow_succ]
    omega
def stF (t : Int → Int) (N q : Int) : Int := fst1 (fun k => decide (¬ t k = 32)) N (N - q).toNat q
def enF (t : Int → Int) (N lo hi q : Int) : Int := fst1 (fun k => !(decide (lo ≤ t k) && decide (t k ≤ hi))) N (N - q).toNat q
def vlV (t : Int → Int) (s : Int) (n : Nat) : Int := it (fun k v => 10 * v + t (s + k) - 48) n 0
def letB (x : Int) : Bool := decide (97 ≤ x) && decide (x ≤ 122)
def digB (x : Int) : Bool := decide (48 ≤ x) && decide (x ≤ 57)
section TK
variable {t : Int → Int} {N : Int}
theorem st_b {q : Int} (h0 : 0 ≤ q) (h1 : q ≤ N) : q ≤ stF t N q ∧ stF t N q ≤ N ∧ (stF t N q < N → t (stF t N q) ≠ 32) := by
  unfold stF
  rcases fst1_spec (fun k => decide (¬ t k = 32)) N (N - q).toNat q with ⟨k, k0, k1, k2, k3, -⟩ | ⟨k0, k1⟩
  · rw [k2]
    exact ⟨k0, by omega, fun _ => of_decide_eq_true k3⟩
  · rw [k0]
    exact ⟨h1, Int.le_refl _, fun h => by omega⟩
theorem en_b {lo hi q : Int} (h0 : 0 ≤ q) (h1 : q ≤ N) : q ≤ enF t N lo hi q ∧ enF t N lo hi q ≤ N ∧ (∀ k : Int, q ≤ k → k < enF t N lo hi q → lo ≤ t k ∧ t k ≤ hi) ∧ (enF t N lo hi q < N → ¬ (lo ≤ t (enF t N lo hi q) ∧ t (enF t N lo hi q) ≤ hi)) := by
  unfold enF
  rcases fst1_spec (fun k => !(decide (lo ≤ t k) && decide (t k ≤ hi))) N (N - q).toNat q with ⟨k, k0, k1, k2, k3, k4⟩ | ⟨k0, k1⟩
  · rw [k2]
    refine ⟨k0, by omega, fun j j0 j1 => ?_, fun _ => ?_⟩
    · have := k4 j j0 j1
      simpa using this
    · intro h
      simp [h] at k3
  · rw [k0]
    refine ⟨h1, Int.le_refl _, fun j j0 j1 => ?_, fun h => by omega⟩
    have := k1 j j0 (by omega)
    simpa using this
theorem en_at {lo hi q e : Int} (h0 : q ≤ e) (h1 : e ≤ N) (h2 : ∀ k : Int, q ≤ k → k < e → lo ≤ t k ∧ t k ≤ hi) (h3 : e < N → ¬ (lo ≤ t e ∧ t e ≤ hi)) : enF t N lo hi q = e := by
  unfold enF
  by_cases h : e < N
  · refine fst1_at h0 (by omega) ?_ fun j j0 j1 => ?_
    · have := h3 h
      rw [Bool.not_eq_true', ← Bool.decide_and]
      exact decide_eq_false this
    · have := h2 j j0 j1
      simp [this]
  · have : e = N := by omega
    rw [this]
    refine fst1_no fun j j0 j1 => ?_
    have := h2 j j0 (by omega)
    simp [this]
theorem st_at {q e : Int} (h0 : q ≤ e) (h1 : e ≤ N) (h2 : ∀ k : Int, q ≤ k → k < e → t k = 32) (h3 : e < N → ¬ t e = 32) : stF t N q = e := by
  unfold stF
  by_cases h : e < N
  · refine fst1_at h0 (by omega) (decide_eq_true (h3 h)) fun j j0 j1 => decide_eq_false fun q => q (h2 j j0 j1)
  · have : e = N := by omega
    rw [this]
    exact fst1_no fun j j0 j1 => decide_eq_false fun q => q (h2 j j0 (by omega))
end TK
/-- what sort of token is next behind q: 0 none, 1 the end, 2 a word, 3 a whole, 4 a semicolon, 5 a comma; where it ends -/
def kdF (t : Int → Int) (N q : Int) : Int := if N ≤ stF t N q then 1 else if letB (t (stF t N q)) = true then (if enF t N 97 122 (stF t N q) - stF t N q ≤ 8 then 2 else 0) else if digB (t (stF t N q)) = true then (if enF t N 48 57 (stF t N q) - stF t N q ≤ 3 then 3 else 0) else if t (stF t N q) = 59 then 4 else if t (stF t N q) = 44 then 5 else 0
def nxF (t : Int → Int) (N q : Int) : Int := if N ≤ stF t N q then stF t N q else if letB (t (stF t N q)) = true then enF t N 97 122 (stF t N q) else if digB (t (stF t N q)) = true then enF t N 48 57 (stF t N q) else stF t N q + 1
def lnF (t : Int → Int) (N q : Int) : Nat := (nxF t N q - stF t N q).toNat
def wdF (t : Int → Int) (N q : Int) : Int := wv (fun k => t (stF t N q + k) - 96) (lnF t N q)
def vlF (t : Int → Int) (N q : Int) : Int := vlV t (stF t N q) (lnF t N q)
/-- the class's numbers of sorts -/
def kdC (k : Int) : Int := if k = 1 then 0 else if k = 2 then 1 else if k = 3 then 2 else if k = 4 then 3 else if k = 5 then 4 else 5
def kdR (k : Int) : Int := if k = 5 then 4 else k
theorem nx_b {t : Int → Int} {N q : Int} (h0 : 0 ≤ q) (h1 : q ≤ N) : (q ≤ stF t N q ∧ stF t N q ≤ nxF t N q ∧ nxF t N q ≤ N) ∧ (stF t N q < N → stF t N q < nxF t N q) := by
  have hs := st_b (t := t) h0 h1
  have e1 := en_b (t := t) (N := N) (lo := 97) (hi := 122) (q := stF t N q) (by omega) hs.2.1
  have e2 := en_b (t := t) (N := N) (lo := 48) (hi := 57) (q := stF t N q) (by omega) hs.2.1
  unfold nxF
  split
  · omega
  · split
    · rename_i hl
      unfold letB at hl
      simp only [Bool.and_eq_true, decide_eq_true_eq] at hl
      refine ⟨by omega, fun hlt => ?_⟩
      by_cases q : enF t N 97 122 (stF t N q) = stF t N q
      · have := e1.2.2.2 (by omega)
        rw [q] at this
        exact absurd hl this
      · omega
    · split
      · rename_i hl
        unfold digB at hl
        simp only [Bool.and_eq_true, decide_eq_true_eq] at hl
        refine ⟨by omega, fun hlt => ?_⟩
        by_cases q : enF t N 48 57 (stF t N q) = stF t N q
        · have := e2.2.2.2 (by omega)
          rw [q] at this
          exact absurd hl this
        · omega
      · omega
/-- a word's letters -/
theorem kd_2 {t : Int → Int} {N q : Int} (h0 : 0 ≤ q) (h1 : q ≤ N) (h : kdF t N q = 2) : stF t N q < N ∧ (1 ≤ lnF t N q ∧ lnF t N q ≤ 8) ∧ (lnF t N q : Int) = nxF t N q - stF t N q ∧ ∀ k : Int, 0 ≤ k → k < lnF t N q → 97 ≤ t (stF t N q + k) ∧ t (stF t N q + k) ≤ 122 := by
  have hs := st_b (t := t) h0 h1
  have e1 := en_b (t := t) (N := N) (lo := 97) (hi := 122) (q := stF t N q) (by omega) hs.2.1
  have hn := nx_b (t := t) h0 h1
  unfold kdF at h
  split at h
  · omega
  · rename_i hN
    split at h
    · rename_i hl
      have en : nxF t N q = enF t N 97 122 (stF t N q) := by unfold nxF; rw [if_neg hN, if_pos hl]
      split at h
      · unfold lnF
        rw [en] at hn ⊢
        exact ⟨by omega, by omega, by omega, fun k k0 k1 => e1.2.2.1 _ (by omega) (by omega)⟩
      · omega
    · split at h
      · split at h <;> omega
      · split at h
        · omega
        · split at h <;> omega
theorem kd_3 {t : Int → Int} {N q : Int} (h0 : 0 ≤ q) (h1 : q ≤ N) (h : kdF t N q = 3) : stF t N q < N ∧ (1 ≤ lnF t N q ∧ lnF t N q ≤ 3) ∧ (lnF t N q : Int) = nxF t N q - stF t N q ∧ ∀ k : Int, 0 ≤ k → k < lnF t N q → 48 ≤ t (stF t N q + k) ∧ t (stF t N q + k) ≤ 57 := by
  have hs := st_b (t := t) h0 h1
  have e1 := en_b (t := t) (N := N) (lo := 48) (hi := 57) (q := stF t N q) (by omega) hs.2.1
  have hn := nx_b (t := t) h0 h1
  unfold kdF at h
  split at h
  · omega
  · rename_i hN
    split at h
    · split at h <;> omega
    · rename_i hl
      split at h
      · rename_i hd
        have en : nxF t N q = enF t N 48 57 (stF t N q) := by unfold nxF; rw [if_neg hN, if_neg hl, if_pos hd]
        split at h
        · unfold lnF
          rw [en] at hn ⊢
          exact ⟨by omega, by omega, by omega, fun k k0 k1 => e1.2.2.1 _ (by omega) (by omega)⟩
        · omega
      · split at h
        · omega
        · split at h <;> omega
theorem vl_b {t : Int → Int} {s : Int} {n : Nat} (h : ∀ k : Int, 0 ≤ k → k < n → 48 ≤ t (s + k) ∧ t (s + k) ≤ 57) (hn : n ≤ 3) : 0 ≤ vlV t s n ∧ vlV t s n ≤ 999 := by
  have h0 := h 0
  have h1 := h 1
  have h2 := h 2
  rcases (by omega : n = 0 ∨ n = 1 ∨ n = 2 ∨ n = 3) with rfl | rfl | rfl | rfl
  · show (0 : Int) ≤ 0 ∧ (0 : Int) ≤ 999
    omega
  · show 0 ≤ 10 * (0 : Int) + t (s + (0 : Nat)) - 48 ∧ 10 * (0 : Int) + t (s + (0 : Nat)) - 48 ≤ 999
    have := h0 (by omega) (by omega)
    simp only [Int.natCast_zero, Int.add_zero] at this ⊢
    omega
  · show 0 ≤ 10 * (10 * (0 : Int) + t (s + (0 : Nat)) - 48) + t (s + (1 : Nat)) - 48 ∧ 10 * (10 * (0 : Int) + t (s + (0 : Nat)) - 48) + t (s + (1 : Nat)) - 48 ≤ 999
    have a := h0 (by omega) (by omega)
    have b := h1 (by omega) (by omega)
    simp only [Int.natCast_zero, Int.add_zero, Int.natCast_one] at a b ⊢
    omega
  · show 0 ≤ 10 * (10 * (10 * (0 : Int) + t (s + (0 : Nat)) - 48) + t (s + (1 : Nat)) - 48) + t (s + (2 : Nat)) - 48 ∧ 10 * (10 * (10 * (0 : Int) + t (s + (0 : Nat)) - 48) + t (s + (1 : Nat)) - 48) + t (s + (2 : Nat)) - 48 ≤ 999
    have a := h0 (by omega) (by omega)
    have b := h1 (by omega) (by omega)
    have d := h2 (by omega) (by omega)
    have e : ((2 : Nat) : Int) = 2 := rfl
    simp only [Int.natCast_zero, Int.add_zero, Int.natCast_one, e] at a b d ⊢
    omega
/-! the constants -/
def gLn (i : Nat) : Nat := (gTxt.map List.length).getD i 0
def tCh (i k : Nat) : Int := (gCh i k).toInt
def wK (i : Nat) : Int := wv (fun k => tCh i k.toNat - 96) (gLn i)
theorem tCh_dec : ∀ i ∈ List.range 51, gLn i ≤ 8 ∧ ∀ k ∈ List.range (gLn i), 97 ≤ tCh i k ∧ tCh i k ≤ 122 := by decide +kernel
theorem gTxt_51 : gTxt.length = 51 := by decide +kernel
section ST
variable {c : cT} {V : Mem}
theorem pc_305 {i : Nat} (hi : i < 51) : PC 5 305 [vS i] c V (some (vI (gLn i))) := by
  intro n d h hn hd H
  obtain ⟨e, rfl⟩ : ∃ e, d = e + 1 := ⟨d - 1, by omega⟩
  refine ⟨h, ?_, H⟩
  unfold gOr
  try dsimp only
  rw [if_pos rfl, if_pos (by omega)]
  show (if i < gTxt.length then some (some (vI ((gTxt.map List.length).getD i 0)), h) else none) = _
  rw [if_pos (by rw [gTxt_51]; exact hi)]
  rfl
theorem pc_306 {i : Nat} {k : Int} (hi : i < 51) (hk : 0 ≤ k) (hk1 : k < gLn i) : PC 5 306 [vS i, vI k] c V (some (vI (tCh i k.toNat))) := by
  intro n d h hn hd H
  obtain ⟨e, rfl⟩ : ∃ e, d = e + 1 := ⟨d - 1, by omega⟩
  refine ⟨h, ?_, H⟩
  have hk2 : k.toNat < (gTxt.map List.length).getD i 0 := by
    have : k.toNat < gLn i := by omega
    exact this
  unfold gOr
  try dsimp only
  rw [if_neg (by decide), if_pos rfl, if_pos (by omega)]
  show (if i < gTxt.length ∧ 0 ≤ k ∧ k.toNat < (gTxt.map List.length).getD i 0 then some (some (vI (gCh i k.toNat).toInt), h) else none) = _
  rw [if_pos ⟨by rw [gTxt_51]; exact hi, hk, hk2⟩]
  rfl
theorem pc_182 {i : Nat} (hi : i < 51) : PC 6 182 [vS i] c V (some (vL (wK i))) := by
  obtain ⟨g1, g2⟩ := tCh_dec i (List.mem_range.mpr hi)
  have hdg : ∀ k : Int, 0 ≤ k → k < gLn i → 1 ≤ tCh i k.toNat - 96 ∧ tCh i k.toNat - 96 ≤ 31 := fun k k0 k1 => by
    have := g2 k.toNat (List.mem_range.mpr (by omega))
    omega
  refine PC_of ?_
  refine CC_of mt_182 gb_182 (by decide) (by decide) rcb_s (Nat.le_of_ble_eq_true rfl) fun n dd hn hd => ?_
  show WW (bX13_wordOf (gOr n dd)) n [some (vS (i)), none, none, none] _ _ _
  unfold bX13_wordOf
  have hn0 : 1000000000 ≤ n := hn
  refine WW_se (WW_stL PE_kI (SQ_n (WW_se (WW_se (WW_st PE_kI (SQ_n ?_))))))
  refine WW_for 900000000 0 (gLn i) (fun j L1 c1 V1 => L1 = [some (vS i), some (vL (wv (fun k => tCh i k.toNat - 96) j.toNat)), none, some (vI j)] ∧ c1 = c ∧ V1 = V) (by omega) (by omega) (by omega) (by omega) ⟨rfl, rfl, rfl⟩ ?_ ?_ ?_
  · rintro j _ c V j0 j1 ⟨rfl, rfl, rfl⟩
    exact ⟨rfl, PE_cI (PE_aCS (PE_lS rfl) PE_a0) hn (pc_305 hi) (by omega)⟩
  · rintro j k' _ c V j0 j1 hk' ⟨rfl, rfl, rfl⟩
    have hj := hdg j j0 j1
    have hw := wv_le hdg (m := j.toNat) (by omega)
    have hp : (32 : Int) ^ j.toNat ≤ 32 ^ 7 := by
      rcases (by omega : j.toNat = 0 ∨ j.toNat = 1 ∨ j.toNat = 2 ∨ j.toNat = 3 ∨ j.toNat = 4 ∨ j.toNat = 5 ∨ j.toNat = 6 ∨ j.toNat = 7) with e | e | e | e | e | e | e | e <;> rw [e] <;> decide
    have e7 : (32 : Int) ^ 7 = 34359738368 := by decide
    have nx : wv (fun k => tCh i k.toNat - 96) (j + 1).toNat = 32 * wv (fun k => tCh i k.toNat - 96) j.toNat + (tCh i j.toNat - 96) := it_s j0
    refine WW_stL (PE_o2 (PE_o2 PE_kI (PE_lL rfl)) (PE_o2 (PE_o2 (PE_cI (PE_aCS (PE_lS rfl) (PE_aCI (PE_lI rfl) PE_a0)) hn (pc_306 hi j0 j1) (by omega)) PE_kI) PE_kI)) (LQ_n ⟨rfl, ?_, rfl, rfl⟩)
    have e1 : zAdd (zSub (tCh i j.toNat) 97) 1 = tCh i j.toNat - 96 := by
      rw [zSub_id (by omega) (by omega), zAdd_id (by omega) (by omega)]
      omega
    rw [e1, nx, lMul_id (by omega) (by omega), lAdd_id (by omega) (by omega)]
    rfl
  · rintro _ c V ⟨rfl, rfl, rfl⟩
    exact SQ_n (WW_rtL (PE_lL rfl) ⟨_, rfl, rfl, rfl, rfl, rfl⟩)
end ST
