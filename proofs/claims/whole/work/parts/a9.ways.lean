/-! PAIRINGS: the ways themselves, in the order in which the reference finds them -/
def frL (ch : Nat → Nat → Bool) (pre : List Nat) (k : Nat) : Bool := !(pre.contains k) && ch pre.length k
def Gs (ch : Nat → Nat → Bool) (P : Nat) : Nat → List Nat → List (List Nat)
  | 0, pre => [pre]
  | r + 1, pre => ((List.range' 0 P).filter (frL ch pre)).flatMap (fun k => Gs ch P r (pre ++ [k]))
def GsF (ch : Nat → Nat → Bool) (P r : Nat) (pre : List Nat) (h : Nat) : List (List Nat) := ((List.range' h (P - h)).filter (frL ch pre)).flatMap (fun k => Gs ch P r (pre ++ [k]))
section GS
variable {ch : Nat → Nat → Bool} {P r : Nat} {pre : List Nat}
theorem Gs_s : Gs ch P (r + 1) pre = GsF ch P r pre 0 := rfl
theorem GsF_end : GsF ch P r pre P = [] := by
  unfold GsF
  rw [Nat.sub_self]
  rfl
theorem GsF_cons {k : Nat} (hk : k < P) : GsF ch P r pre k = (if frL ch pre k = true then Gs ch P r (pre ++ [k]) else []) ++ GsF ch P r pre (k + 1) := by
  unfold GsF
  obtain ⟨n, hn⟩ : ∃ n, P - k = n + 1 := ⟨P - k - 1, by omega⟩
  have hn2 : P - (k + 1) = n := by omega
  rw [hn, hn2, List.range'_succ, List.filter_cons]
  by_cases h : frL ch pre k = true
  · rw [if_pos h, if_pos h, List.flatMap_cons]
  · rw [if_neg h, if_neg h]
    rfl
theorem GsF_skip {k : Nat} (hk : k < P) (h : frL ch pre k = false) : GsF ch P r pre k = GsF ch P r pre (k + 1) := by
  rw [GsF_cons hk, if_neg (by rw [h]; decide)]
  rfl
theorem GsF_take {k : Nat} (hk : k < P) (h : frL ch pre k = true) : GsF ch P r pre k = Gs ch P r (pre ++ [k]) ++ GsF ch P r pre (k + 1) := by
  rw [GsF_cons hk, if_pos h]
theorem Gs_mem {a : List Nat} : a ∈ Gs ch P (r + 1) pre ↔ ∃ k, k < P ∧ frL ch pre k = true ∧ a ∈ Gs ch P r (pre ++ [k]) := by
  show a ∈ ((List.range' 0 P).filter (frL ch pre)).flatMap (fun k => Gs ch P r (pre ++ [k])) ↔ _
  rw [List.mem_flatMap]
  constructor
  · rintro ⟨k, hk, ha⟩
    obtain ⟨h1, h2⟩ := List.mem_filter.mp hk
    have h3 := List.mem_range'_1.mp h1
    exact ⟨k, by omega, h2, ha⟩
  · rintro ⟨k, hk, h2, ha⟩
    exact ⟨k, List.mem_filter.mpr ⟨List.mem_range'_1.mpr (by omega), h2⟩, ha⟩
end GS
theorem bq_dec : ∀ m ∈ List.range 256, ∀ k ∈ List.range 8, m.testBit k = false → ∀ j ∈ List.range 8, (m + 2 ^ k).testBit j = (m.testBit j || decide (j = k)) := by decide +kernel
theorem Gs_nW {ch : Nat → Nat → Bool} {P : Nat} (hP : P ≤ 8) : ∀ {r : Nat} {pre : List Nat} {m : Nat}, m < 2 ^ P → (∀ k, k < P → m.testBit k = pre.contains k) → (Gs ch P r pre).length = nW ch P r pre.length m
  | 0, pre, m, _, _ => rfl
  | r + 1, pre, m, hm, hb => by
    show (((List.range' 0 P).filter (frL ch pre)).flatMap (fun k => Gs ch P r (pre ++ [k]))).length = ((((List.range P).filter (fun k => !m.testBit k && ch pre.length k)).map (fun k => m + 2 ^ k)).map (nW ch P r (pre.length + 1))).sum
    have hf : (List.range P).filter (frL ch pre) = (List.range P).filter (fun k => !m.testBit k && ch pre.length k) := List.filter_congr fun k hk => by
      unfold frL
      rw [hb k (List.mem_range.mp hk)]
    rw [List.length_flatMap, List.map_map, ← List.range_eq_range', hf]
    congr 1
    apply List.map_congr_left
    intro k hk
    have hk2 := List.mem_filter.mp hk
    simp only [Bool.and_eq_true, Bool.not_eq_true'] at hk2
    have hkP := List.mem_range.mp hk2.1
    have h256 : m < 256 := by
      have : 2 ^ P ≤ 2 ^ 8 := Nat.pow_le_pow_right (by decide) hP
      omega
    have hmk := (mk_dec P (List.mem_range.mpr (by omega)) m (List.mem_range.mpr hm) k (List.mem_range.mpr hkP) hk2.2.1).1
    have ih := Gs_nW (ch := ch) hP (r := r) (pre := pre ++ [k]) (m := m + 2 ^ k) hmk fun j hj => by
      rw [bq_dec m (List.mem_range.mpr h256) k (List.mem_range.mpr (by omega)) hk2.2.1 j (List.mem_range.mpr (by omega)), hb j hj, List.contains_append]
      congr 1
      simp
    rw [ih, List.length_append]
    rfl
theorem Gs_len {ch : Nat → Nat → Bool} {P n : Nat} (hP : P ≤ 8) : (Mk ch P n).length = (Gs ch P n []).length := by
  rw [Mk_len, Gs_nW (m := 0) hP (Nat.two_pow_pos P) (fun k _ => by simp)]
  rfl
theorem Gs_pre {ch : Nat → Nat → Bool} {P : Nat} : ∀ {r : Nat} {pre a : List Nat}, a ∈ Gs ch P r pre → a.length = pre.length + r ∧ (∀ j, j < pre.length → a[j]? = pre[j]?) ∧ ∀ j, pre.length ≤ j → j < a.length → ∃ k, a[j]? = some k ∧ k < P ∧ ch j k = true
  | 0, pre, a, h => by
    have : a = pre := by simpa [Gs] using h
    subst this
    exact ⟨rfl, fun _ _ => rfl, fun j h1 h2 => by omega⟩
  | r + 1, pre, a, h => by
    obtain ⟨k, hk, hfr, ha⟩ := Gs_mem.mp h
    have hch : ch pre.length k = true := by
      unfold frL at hfr
      simp only [Bool.and_eq_true] at hfr
      exact hfr.2
    obtain ⟨h1, h2, h3⟩ := Gs_pre ha
    rw [List.length_append] at h1 h2 h3
    have e1 : [k].length = 1 := rfl
    refine ⟨by omega, fun j hj => ?_, fun j hj hj2 => ?_⟩
    · rw [h2 j (by omega), List.getElem?_append_left hj]
    · by_cases e : j = pre.length
      · refine ⟨k, ?_, hk, by rw [e]; exact hch⟩
        rw [h2 j (by omega), List.getElem?_append_right (by omega), e, Nat.sub_self]
        rfl
      · exact h3 j (by omega) hj2
/-- who i has only the place k -/
def resC (ch : Nat → Nat → Bool) (i k : Nat) : Nat → Nat → Bool := fun q j => ch q j && (!(decide (q = i)) || decide (j = k))
theorem Gs_res {ch : Nat → Nat → Bool} {P i k : Nat} : ∀ {r : Nat} {pre a : List Nat}, a ∈ Gs (resC ch i k) P r pre ↔ a ∈ Gs ch P r pre ∧ (i < pre.length ∨ pre.length + r ≤ i ∨ a[i]? = some k)
  | 0, pre, a => by
    constructor
    · intro h
      exact ⟨h, by omega⟩
    · exact fun h => h.1
  | r + 1, pre, a => by
    have el : ∀ j, (pre ++ [j]).length = pre.length + 1 := fun j => by rw [List.length_append]; rfl
    rw [Gs_mem, Gs_mem]
    constructor
    · rintro ⟨j, hj, h1, h2⟩
      obtain ⟨h3, h4⟩ := Gs_res.mp h2
      rw [el] at h4
      have h1' := h1
      unfold frL resC at h1'
      simp only [Bool.and_eq_true, Bool.or_eq_true, Bool.not_eq_true', decide_eq_false_iff_not, decide_eq_true_eq] at h1'
      refine ⟨⟨j, hj, ?_, h3⟩, ?_⟩
      · unfold frL
        simp only [Bool.and_eq_true, Bool.not_eq_true']
        exact ⟨h1'.1, h1'.2.1⟩
      · by_cases e : pre.length = i
        · have hjk : j = k := h1'.2.2.resolve_left (fun q => q e)
          have := (Gs_pre h3).2.1 i (by rw [el]; omega)
          refine Or.inr (Or.inr ?_)
          rw [this, List.getElem?_append_right (by omega), e, Nat.sub_self, hjk]
          rfl
        · rcases h4 with h4 | h4 | h4
          · exact Or.inl (by omega)
          · exact Or.inr (Or.inl (by omega))
          · exact Or.inr (Or.inr h4)
    · rintro ⟨⟨j, hj, h1, h3⟩, h4⟩
      have h4' : i < pre.length + 1 ∨ pre.length + 1 + r ≤ i ∨ a[i]? = some k := by
        rcases h4 with h4 | h4 | h4
        · exact Or.inl (by omega)
        · exact Or.inr (Or.inl (by omega))
        · exact Or.inr (Or.inr h4)
      refine ⟨j, hj, ?_, Gs_res.mpr ⟨h3, by rw [el]; exact h4'⟩⟩
      unfold frL at h1 ⊢
      unfold resC
      simp only [Bool.and_eq_true, Bool.or_eq_true, Bool.not_eq_true', decide_eq_false_iff_not, decide_eq_true_eq] at h1 ⊢
      refine ⟨h1.1, h1.2, ?_⟩
      by_cases e : pre.length = i
      · refine Or.inr ?_
        have := (Gs_pre h3).2.1 i (by rw [el]; omega)
        rw [List.getElem?_append_right (by omega), ← e, Nat.sub_self] at this
        have this : a[pre.length]? = some j := this
        rcases h4 with h4 | h4 | h4
        · omega
        · omega
        · rw [← e, this] at h4
          exact Option.some.inj h4
      · exact Or.inl e
/-- some way gives who j the place k -/
def dn (L : List (List Nat)) (j k : Nat) : Bool := L.any (fun a => a[j]? == some k)
theorem dn_iff {L : List (List Nat)} {j k : Nat} : dn L j k = true ↔ ∃ a, a ∈ L ∧ a[j]? = some k := by
  unfold dn
  rw [List.any_eq_true]
  constructor
  · rintro ⟨a, h1, h2⟩
    exact ⟨a, h1, by simpa using h2⟩
  · rintro ⟨a, h1, h2⟩
    exact ⟨a, h1, by simpa using h2⟩
theorem dn_app {L : List (List Nat)} {a : List Nat} {j k : Nat} : dn (L ++ [a]) j k = (dn L j k || (a[j]? == some k)) := by
  unfold dn
  rw [List.any_append]
  simp
theorem dn_res {ch : Nat → Nat → Bool} {P n i k : Nat} (hi : i < n) : 0 < (Gs (resC ch i k) P n []).length ↔ dn (Gs ch P n []) i k = true := by
  rw [dn_iff, List.length_pos_iff_exists_mem]
  constructor
  · rintro ⟨a, ha⟩
    obtain ⟨h1, h2⟩ := Gs_res.mp ha
    have e : ([] : List Nat).length = 0 := rfl
    refine ⟨a, h1, ?_⟩
    rcases h2 with h2 | h2 | h2
    · omega
    · omega
    · exact h2
  · rintro ⟨a, h1, h2⟩
    exact ⟨a, Gs_res.mpr ⟨h1, Or.inr (Or.inr h2)⟩⟩
theorem dn_big {ch : Nat → Nat → Bool} {P n i k : Nat} (hk : P ≤ k) : dn (Gs ch P n []) i k = false := by
  cases h : dn (Gs ch P n []) i k
  · rfl
  · obtain ⟨a, h1, h2⟩ := dn_iff.mp h
    obtain ⟨g1, -, g3⟩ := Gs_pre h1
    have hl := (List.getElem?_eq_some_iff.mp h2).1
    obtain ⟨k', h3, h4, -⟩ := g3 i (Nat.zero_le _) hl
    rw [h2] at h3
    have := Option.some.inj h3
    omega
theorem dn_ch {ch : Nat → Nat → Bool} {P n i k : Nat} (h : dn (Gs ch P n []) i k = true) : ch i k = true := by
  obtain ⟨a, h1, h2⟩ := dn_iff.mp h
  obtain ⟨g1, -, g3⟩ := Gs_pre h1
  have hl := (List.getElem?_eq_some_iff.mp h2).1
  obtain ⟨k', h3, h4, h5⟩ := g3 i (Nat.zero_le _) hl
  rw [h2] at h3
  have := Option.some.inj h3
  rw [this]
  exact h5
theorem Gs_cg {ch ch' : Nat → Nat → Bool} {P n : Nat} (h : ∀ i k, i < n → k < P → ch i k = ch' i k) : ∀ {r : Nat} {pre : List Nat}, pre.length + r ≤ n → Gs ch P r pre = Gs ch' P r pre
  | 0, _, _ => rfl
  | r + 1, pre, hr => by
    show ((List.range' 0 P).filter (frL ch pre)).flatMap (fun k => Gs ch P r (pre ++ [k])) = ((List.range' 0 P).filter (frL ch' pre)).flatMap (fun k => Gs ch' P r (pre ++ [k]))
    have e : (List.range' 0 P).filter (frL ch pre) = (List.range' 0 P).filter (frL ch' pre) := List.filter_congr fun k hk => by
      have h3 := List.mem_range'_1.mp hk
      unfold frL
      rw [h pre.length k (by omega) (by omega)]
    have e2 : (fun k => Gs ch P r (pre ++ [k])) = fun k => Gs ch' P r (pre ++ [k]) := by
      funext k
      exact Gs_cg h (by rw [List.length_append]; show pre.length + 1 + r ≤ n; omega)
    rw [e, e2]
/-! the search, level by level -/
def preF (f : Int → Int) (i : Nat) : List Nat := (List.range i).map (fun j : Nat => (f (j : Int)).toNat)
theorem preF_s {f : Int → Int} {i : Nat} : preF f (i + 1) = preF f i ++ [(f (i : Int)).toNat] := by
  unfold preF
  rw [List.range_succ, List.map_append]
  rfl
theorem preF_len {f : Int → Int} {i : Nat} : (preF f i).length = i := by
  unfold preF
  rw [List.length_map, List.length_range]
theorem preF_cg {f f' : Int → Int} {i : Nat} (h : ∀ q : Nat, q < i → f q = f' q) : preF f i = preF f' i := by
  unfold preF
  apply List.map_congr_left
  intro q hq
  rw [h q (List.mem_range.mp hq)]
theorem preF_at {f : Int → Int} {i j : Nat} (hj : j < i) : (preF f i)[j]? = some (f (j : Int)).toNat := by
  unfold preF
  rw [List.getElem?_map, List.getElem?_range hj]
  rfl
def rsL (ch : Nat → Nat → Bool) (P n : Nat) (f : Int → Int) : Nat → List (List Nat)
  | 0 => []
  | q + 1 => GsF ch P (n - q - 1) (preF f q) (f (q : Int) + 1).toNat ++ rsL ch P n f q
theorem rsL_cg {ch : Nat → Nat → Bool} {P n : Nat} {f f' : Int → Int} : ∀ {i : Nat}, (∀ q : Nat, q < i → f q = f' q) → rsL ch P n f i = rsL ch P n f' i
  | 0, _ => rfl
  | i + 1, h => by
    show GsF ch P (n - i - 1) (preF f i) (f (i : Int) + 1).toNat ++ rsL ch P n f i = GsF ch P (n - i - 1) (preF f' i) (f' (i : Int) + 1).toNat ++ rsL ch P n f' i
    rw [rsL_cg (fun q hq => h q (by omega)), preF_cg (fun q hq => h q (by omega)), h i (by omega)]
/-- how the search stands: i people have places; L: the ways found -/
def ST (ch : Nat → Nat → Bool) (P n : Nat) (f : Int → Int) (L : List (List Nat)) : Nat → Prop := fun t => (t ≤ n ∧ Gs ch P n [] = L ++ rsL ch P n f t) ∨ (t = n + 1 ∧ Gs ch P n [] = L ++ preF f n :: rsL ch P n f n)
theorem ST_0 {ch : Nat → Nat → Bool} {P n : Nat} {f : Int → Int} (hf : f 0 = -1) : ST ch P n f [] 1 := by
  by_cases hn : n = 0
  · subst hn
    exact Or.inr ⟨rfl, rfl⟩
  · refine Or.inl ⟨by omega, ?_⟩
    obtain ⟨n', rfl⟩ : ∃ n', n = n' + 1 := ⟨n - 1, by omega⟩
    show GsF ch P n' [] 0 = [] ++ (GsF ch P (n' + 1 - 0 - 1) [] (f 0 + 1).toNat ++ [])
    rw [hf, List.append_nil]
    rfl
theorem ST_full {ch : Nat → Nat → Bool} {P n : Nat} {f : Int → Int} {L : List (List Nat)} (h : ST ch P n f L (n + 1)) : ST ch P n f (L ++ [preF f n]) n := by
  rcases h with ⟨h, -⟩ | ⟨-, h⟩
  · omega
  · refine Or.inl ⟨Nat.le_refl n, ?_⟩
    rw [h, List.append_assoc]
    rfl
theorem ST_back {ch : Nat → Nat → Bool} {P n i : Nat} {f : Int → Int} {L : List (List Nat)} (h : ST ch P n f L (i + 1)) (hi : i < n) (he : GsF ch P (n - i - 1) (preF f i) (f (i : Int) + 1).toNat = []) : ST ch P n (gUz f i (-1)) L i := by
  rcases h with ⟨-, h⟩ | ⟨h, -⟩
  · refine Or.inl ⟨by omega, ?_⟩
    rw [h, rsL_cg (f := gUz f i (-1)) (f' := f) (fun q hq => gUz_ne (by omega))]
    show L ++ (GsF ch P (n - i - 1) (preF f i) (f (i : Int) + 1).toNat ++ rsL ch P n f i) = _
    rw [he]
    rfl
  · omega
theorem ST_on {ch : Nat → Nat → Bool} {P n i k : Nat} {f : Int → Int} {L : List (List Nat)} (h : ST ch P n f L (i + 1)) (hi : i < n) (he : GsF ch P (n - i - 1) (preF f i) (f (i : Int) + 1).toNat = GsF ch P (n - i - 1) (preF f i) k) (hk : k < P) (hf : frL ch (preF f i) k = true) (hb : i + 1 < n → f ((i + 1 : Nat) : Int) = -1) : ST ch P n (gUz f i k) L (i + 2) := by
  have e0 : ∀ q : Nat, q < i → gUz f i k q = f q := fun q hq => gUz_ne (by omega)
  have ei : gUz f i k i = k := gUz_at
  have hr : rsL ch P n (gUz f i k) (i + 1) = GsF ch P (n - i - 1) (preF f i) (k + 1) ++ rsL ch P n f i := by
    show GsF ch P (n - i - 1) (preF (gUz f i k) i) (gUz f i k (i : Int) + 1).toNat ++ rsL ch P n (gUz f i k) i = _
    rw [rsL_cg (f := gUz f i k) (f' := f) e0, preF_cg (f := gUz f i k) (f' := f) e0, ei]
    rfl
  have hp : preF (gUz f i k) (i + 1) = preF f i ++ [k] := by
    rw [preF_s, preF_cg (f := gUz f i k) (f' := f) e0, ei]
    rfl
  rcases h with ⟨-, h⟩ | ⟨h, -⟩
  · have h : Gs ch P n [] = L ++ (GsF ch P (n - i - 1) (preF f i) (f (i : Int) + 1).toNat ++ rsL ch P n f i) := h
    rw [he, GsF_take hk hf, List.append_assoc, ← hr, ← hp] at h
    by_cases hl : i + 1 < n
    · refine Or.inl ⟨by omega, ?_⟩
      rw [h]
      show _ = L ++ (GsF ch P (n - (i + 1) - 1) (preF (gUz f i k) (i + 1)) (gUz f i k ((i + 1 : Nat) : Int) + 1).toNat ++ rsL ch P n (gUz f i k) (i + 1))
      rw [gUz_ne (by omega), hb hl]
      have e1 : n - i - 1 = (n - (i + 1) - 1) + 1 := by omega
      rw [e1, Gs_s]
      rfl
    · refine Or.inr ⟨by omega, ?_⟩
      have e1 : n - i - 1 = 0 := by omega
      have e2 : n = i + 1 := by omega
      rw [h, e1]
      subst e2
      rfl
  · omega
theorem ST_end {ch : Nat → Nat → Bool} {P n : Nat} {f : Int → Int} {L : List (List Nat)} (h : ST ch P n f L 0) : L = Gs ch P n [] := by
  rcases h with ⟨-, h⟩ | ⟨h, -⟩
  · rw [h]
    show L = L ++ []
    rw [List.append_nil]
  · omega
/-! how long the search goes on -/
theorem sW_le8 {n k : Nat} (hn : n ≤ 8) : sW n k ≤ sW 8 k := by
  induction k with
  | zero => exact Nat.le_refl _
  | succ k ih =>
    show n * (1 + sW n k) + 1 ≤ 8 * (1 + sW 8 k) + 1
    have := Nat.mul_le_mul hn (Nat.add_le_add_left ih 1)
    omega
theorem sW_8 : ∀ k ∈ List.range 9, sW 8 k ≤ 30000000 := by decide +kernel
theorem mu_jump {n P p : Nat} {f : Int → Int} {k : Int} (hk : f p < k) (hkn : k < n) : muS n P (gUz f p k) (p + 1) + (1 + sW n (P - p - 1)) ≤ muS n P f (p + 1) := by
  have e0 : muS n P (gUz f p k) p = muS n P f p := muS_cg fun q hq => gUz_ne (by omega)
  show muS n P (gUz f p k) p + (((n : Int) - 1 - gUz f p k p).toNat * (1 + sW n (P - p - 1)) + 1) + (1 + sW n (P - p - 1)) ≤ muS n P f p + (((n : Int) - 1 - f p).toNat * (1 + sW n (P - p - 1)) + 1)
  rw [e0, gUz_at]
  have et : ((n : Int) - 1 - k).toNat + 1 ≤ ((n : Int) - 1 - f p).toNat := by omega
  have := Nat.mul_le_mul_right (1 + sW n (P - p - 1)) et
  rw [Nat.succ_mul] at this
  omega
theorem mu_two {n P p : Nat} {f : Int → Int} {k : Int} (hk : f p < k) (hkn : k < n) (hP : p + 1 < P) (h3 : f ((p + 1 : Nat) : Int) = -1) : muS n P (gUz f p k) (p + 2) < muS n P f (p + 1) := by
  have h := mu_jump (P := P) hk hkn
  have e1 : gUz f p k ((p + 1 : Nat) : Int) = -1 := by rw [gUz_ne (by omega)]; exact h3
  show muS n P (gUz f p k) (p + 1) + (((n : Int) - 1 - gUz f p k ((p + 1 : Nat) : Int)).toNat * (1 + sW n (P - (p + 1) - 1)) + 1) < muS n P f (p + 1)
  rw [e1]
  obtain ⟨q, hq⟩ : ∃ q, P - p - 1 = q + 1 := ⟨P - p - 2, by omega⟩
  have hq2 : P - (p + 1) - 1 = q := by omega
  have en : ((n : Int) - 1 - -1).toNat = n := by omega
  have es : sW n (q + 1) = n * (1 + sW n q) + 1 := rfl
  rw [hq2, en]
  rw [hq, es] at h
  omega
/-! sets of places by bits -/
theorem or8_dec : ∀ b0 b1 b2 b3 b4 b5 b6 b7 : Bool, ∀ k ∈ List.range 8, zOr (bset 8 (fun p => [b0, b1, b2, b3, b4, b5, b6, b7].getD p.toNat false)) (zShl 1 (k : Int)) = bset 8 (fun p => [b0, b1, b2, b3, b4, b5, b6, b7].getD p.toNat false || decide (p = (k : Int))) := by decide +kernel
theorem l8 {P : Int → Bool} {p : Int} (h0 : 0 ≤ p) (h8 : p < 8) : P p = [P 0, P 1, P 2, P 3, P 4, P 5, P 6, P 7].getD p.toNat false := by
  rcases (by omega : p = 0 ∨ p = 1 ∨ p = 2 ∨ p = 3 ∨ p = 4 ∨ p = 5 ∨ p = 6 ∨ p = 7) with rfl | rfl | rfl | rfl | rfl | rfl | rfl | rfl <;> rfl
theorem or8 {P : Int → Bool} {k : Nat} (hk : k < 8) : zOr (bset 8 P) (zShl 1 (k : Int)) = bset 8 (fun p => P p || decide (p = (k : Int))) := by
  have h := or8_dec (P 0) (P 1) (P 2) (P 3) (P 4) (P 5) (P 6) (P 7) k (List.mem_range.mpr hk)
  have e1 : bset 8 P = bset 8 (fun p => [P 0, P 1, P 2, P 3, P 4, P 5, P 6, P 7].getD p.toNat false) := bset_congr fun j j0 j1 => l8 j0 j1
  have e2 : bset 8 (fun p => P p || decide (p = (k : Int))) = bset 8 (fun p => [P 0, P 1, P 2, P 3, P 4, P 5, P 6, P 7].getD p.toNat false || decide (p = (k : Int))) := bset_congr fun j j0 j1 => by
    have := l8 (P := P) j0 j1
    rw [← this]
  rw [e1, e2]
  exact h
theorem b8_dec : ∀ b0 b1 b2 b3 b4 b5 b6 b7 : Bool, (0 ≤ bset 8 (fun p => [b0, b1, b2, b3, b4, b5, b6, b7].getD p.toNat false) ∧ bset 8 (fun p => [b0, b1, b2, b3, b4, b5, b6, b7].getD p.toNat false) < 256) ∧ ∀ k ∈ List.range 8, decide (¬ zAnd (bset 8 (fun p => [b0, b1, b2, b3, b4, b5, b6, b7].getD p.toNat false)) (zShl 1 (k : Int)) = 0) = [b0, b1, b2, b3, b4, b5, b6, b7].getD k false := by decide +kernel
theorem bset8 {P : Int → Bool} : (0 ≤ bset 8 P ∧ bset 8 P < 256) ∧ ∀ k : Nat, k < 8 → decide (¬ zAnd (bset 8 P) (zShl 1 (k : Int)) = 0) = P k := by
  have h := b8_dec (P 0) (P 1) (P 2) (P 3) (P 4) (P 5) (P 6) (P 7)
  have e1 : bset 8 P = bset 8 (fun p => [P 0, P 1, P 2, P 3, P 4, P 5, P 6, P 7].getD p.toNat false) := bset_congr fun j j0 j1 => l8 j0 j1
  rw [e1]
  refine ⟨h.1, fun k hk => ?_⟩
  rw [h.2 k (List.mem_range.mpr hk), l8 (P := P) (p := (k : Int)) (by omega) (by omega)]
  rfl
theorem bs_up {D : Int → Bool} {k : Nat} (hk : k < 8) : (if D k = true then zOr (bset 8 (fun z => decide (z < (k : Int)) && D z)) (zShl 1 (k : Int)) else bset 8 (fun z => decide (z < (k : Int)) && D z)) = bset 8 (fun z => decide (z < ((k + 1 : Nat) : Int)) && D z) := by
  by_cases h : D k = true
  · rw [if_pos h, or8 hk]
    refine bset_congr fun j j0 j1 => ?_
    by_cases e : j = k
    · subst e
      simp [h]
      omega
    · have a1 : decide (j = (k : Int)) = false := decide_eq_false e
      have a2 : decide (j < (k : Int)) = decide (j < ((k + 1 : Nat) : Int)) := by
        congr 1
        apply propext
        omega
      rw [a1, a2, Bool.or_false]
  · rw [if_neg h]
    refine bset_congr fun j j0 j1 => ?_
    by_cases e : j = k
    · subst e
      have : D (k : Int) = false := by simpa using h
      rw [this, Bool.and_false, Bool.and_false]
    · have a2 : decide (j < (k : Int)) = decide (j < ((k + 1 : Nat) : Int)) := by
        congr 1
        apply propext
        omega
      rw [a2]
theorem bs_0 {D : Int → Bool} : bset 8 (fun z => decide (z < ((0 : Nat) : Int)) && D z) = 0 := by
  rw [bset_congr (Q := fun _ => false) fun j j0 j1 => by rw [decide_eq_false (by omega)]; rfl]
  rfl
theorem gUz_id {f : Int → Int} {i : Int} : gUz f i (f i) = f := by
  funext q
  unfold gUz
  split
  · rename_i h; rw [h]
  · rfl
theorem gUz_gUz {f : Int → Int} {i x y : Int} : gUz (gUz f i x) i y = gUz f i y := by
  funext q
  unfold gUz
  split <;> rfl
