/-! PAINTING in the class: bits, pigeonholes, the search -/
theorem zAnd_or {x y m : Int} : (¬ zAnd (zOr x y) m = 0) ↔ (¬ zAnd x m = 0 ∨ ¬ zAnd y m = 0) := by
  unfold zAnd zOr
  rw [Int32.ofInt_toInt]
  have z : ∀ a : Int32, a.toInt = 0 ↔ a = 0 := fun a => ⟨fun h => Int32.toInt_inj.mp (h.trans rfl), fun h => by rw [h]; rfl⟩
  rw [z, z, z]
  have e : (Int32.ofInt x ||| Int32.ofInt y) &&& Int32.ofInt m = (Int32.ofInt x &&& Int32.ofInt m) ||| (Int32.ofInt y &&& Int32.ofInt m) := by
    apply Int32.toBitVec_inj.mp
    simp only [Int32.toBitVec_and, Int32.toBitVec_or]
    exact BitVec.and_or_distrib_right
  rw [e]
  generalize Int32.ofInt x &&& Int32.ofInt m = a
  generalize Int32.ofInt y &&& Int32.ofInt m = b
  constructor
  · intro h
    by_cases ha : a = 0
    · right
      intro hb
      apply h
      rw [ha, hb]
      rfl
    · exact Or.inl ha
  · intro h hab
    have h2 : a.toBitVec ||| b.toBitVec = 0#32 := by
      have := congrArg Int32.toBitVec hab
      rw [Int32.toBitVec_or] at this
      exact this
    have h3 := BitVec.or_eq_zero_iff.mp h2
    rcases h with h | h
    · exact h (Int32.toBitVec_inj.mp h3.1)
    · exact h (Int32.toBitVec_inj.mp h3.2)
theorem zAnd_0 {m : Int} : zAnd 0 m = 0 := by
  unfold zAnd
  have : Int32.ofInt 0 = 0 := rfl
  rw [this, Int32.zero_and]
  rfl
theorem shl_dec : ∀ a ∈ List.range 8, ∀ b ∈ List.range 8, (zAnd (zShl 1 (a : Int)) (zShl 1 (b : Int)) = 0 ↔ ¬ a = b) := by decide +kernel
theorem shl_ne {a b : Int} (ha : 0 ≤ a) (ha8 : a < 8) (hb : 0 ≤ b) (hb8 : b < 8) : (¬ zAnd (zShl 1 a) (zShl 1 b) = 0) ↔ a = b := by
  have := shl_dec a.toNat (List.mem_range.mpr (by omega)) b.toNat (List.mem_range.mpr (by omega))
  rw [Int.toNat_of_nonneg ha, Int.toNat_of_nonneg hb] at this
  rw [this]
  omega
theorem pop_bset_dec : ∀ b0 b1 b2 b3 b4 b5 b6 : Bool, popF (bset 7 (fun p => [b0, b1, b2, b3, b4, b5, b6].getD p.toNat false)) = cnt 7 (fun p => [b0, b1, b2, b3, b4, b5, b6].getD p.toNat false) := by decide +kernel
theorem pop_bset {P : Int → Bool} : popF (bset 7 P) = cnt 7 P := by
  have e1 : bset 7 P = bset 7 (fun p => [P 0, P 1, P 2, P 3, P 4, P 5, P 6].getD p.toNat false) := bset_congr fun j j0 j1 => l7 j0 (by omega)
  have e2 : cnt 7 P = cnt 7 (fun p => [P 0, P 1, P 2, P 3, P 4, P 5, P 6].getD p.toNat false) := cnt_congr fun j j0 j1 => l7 j0 (by omega)
  rw [e1, e2]
  exact pop_bset_dec _ _ _ _ _ _ _
theorem cnt_or {P Q T : Int → Bool} : ∀ {n : Nat}, (∀ j : Int, 0 ≤ j → j < n → P j = true → Q j = true ∨ T j = true) → cnt n P ≤ cnt n Q + cnt n T
  | 0, _ => by show (0 : Int) ≤ 0 + 0; omega
  | n + 1, h => by
    have ih := cnt_or (n := n) fun j j0 j1 => h j j0 (by omega)
    have hn := h n (by omega) (by omega)
    show cnt n P + (if P n = true then 1 else 0) ≤ cnt n Q + (if Q n = true then 1 else 0) + (cnt n T + (if T n = true then 1 else 0))
    by_cases hp : P n = true
    · rcases hn hp with q | q
      · rw [if_pos hp, if_pos q]; split <;> omega
      · rw [if_pos hp, if_pos q]; split <;> omega
    · rw [if_neg hp]; split <;> split <;> omega
theorem cnt_one {P : Int → Bool} : ∀ {n : Nat}, (∀ i j : Int, 0 ≤ i → i < j → j < n → P i = true → P j = true → False) → cnt n P ≤ 1
  | 0, _ => by show (0 : Int) ≤ 1; omega
  | n + 1, h => by
    show cnt n P + (if P n = true then 1 else 0) ≤ 1
    by_cases hp : P n = true
    · have : cnt n P = 0 := by
        have hz : ∀ m : Nat, m ≤ n → cnt m P = 0 := fun m => by
          induction m with
          | zero => intro _; rfl
          | succ m ih =>
            intro hm
            show cnt m P + (if P m = true then 1 else 0) = 0
            rw [ih (by omega), if_neg (fun q => h m n (by omega) (by omega) (by omega) q hp)]
            omega
        exact hz n (by omega)
      rw [this, if_pos hp]
      omega
    · rw [if_neg hp]
      have := cnt_one (n := n) fun i j i0 i1 j1 => h i j i0 i1 (by omega)
      omega
theorem pigeon {N : Nat} {f : Int → Int} : ∀ {m : Nat} {P : Int → Bool}, (∀ q : Int, 0 ≤ q → q < N → P q = true → 0 ≤ f q ∧ f q < m) → (∀ i j : Int, 0 ≤ i → i < j → j < N → P i = true → P j = true → f i ≠ f j) → cnt N P ≤ m
  | 0, P, h1, h2 => by
    have : cnt N P ≤ cnt N (fun _ => false) + cnt N (fun _ => false) := cnt_or fun j j0 j1 hp => by
      have := h1 j j0 j1 hp
      omega
    have hz : ∀ n : Nat, cnt n (fun _ => false) = 0 := fun n => by
      induction n with
      | zero => rfl
      | succ n ih => show cnt n (fun _ => false) + 0 = 0; rw [ih]; rfl
    rw [hz] at this
    exact this
  | m + 1, P, h1, h2 => by
    have a := cnt_or (n := N) (P := P) (Q := fun q => P q && decide (f q < m)) (T := fun q => P q && decide (f q = m)) fun j j0 j1 hp => by
      have := h1 j j0 j1 hp
      by_cases q : f j < m
      · left; simp [hp, q]
      · right; simp [hp]; omega
    have b := pigeon (N := N) (f := f) (m := m) (P := fun q => P q && decide (f q < m)) (fun q q0 q1 hp => by
      simp at hp
      have := h1 q q0 q1 hp.1
      omega) (fun i j i0 i1 j1 hi hj => by
      simp at hi hj
      exact h2 i j i0 i1 j1 hi.1 hj.1)
    have d := cnt_one (n := N) (P := fun q => P q && decide (f q = m)) fun i j i0 i1 j1 hi hj => by
      simp at hi hj
      exact h2 i j i0 i1 j1 hi.1 hj.1 (by rw [hi.2, hj.2])
    omega
/-- fewer than the most who are there at once won't do -/
theorem okC_crowd {G : oV} (hG : GW G) {m : Int} {f : Int → Int} (h0 : 0 ≤ m) (h : okC G m f) : mostF G (G 0 0).toNat ≤ m := by
  have y0 := hG.1
  have y4 := hG.2.2.2.2.1
  have key : ∀ d : Int, 0 ≤ d → d < G 0 0 → popF (hereS G d) ≤ m := fun d d0 d1 => by
    unfold hereS
    rw [pop_bset]
    have := pigeon (N := 7) (f := f) (m := m.toNat) (P := fun p => decide (p < G 4 0) && hereB G p d) (fun q q0 q1 hp => by
      simp at hp
      have := (h q q0 hp.1).1
      omega) (fun i j i0 i1 j1 hi hj => by
      simp at hi hj
      exact (h j (by omega) hj.1).2 i i0 i1 (anyB_iff.mpr ⟨d, d0, by omega, by simp [hi.2, hj.2]⟩))
    omega
  have := it_inv (f := fun d m => if m < popF (hereS G d) then popF (hereS G d) else m) (n := (G 0 0).toNat) (s := (0 : Int)) (fun _ x => x ≤ m) h0 fun j x j0 j1 hx => by
    show (if x < popF (hereS G j) then popF (hereS G j) else x) ≤ m
    split
    · exact key j j0 (by omega)
    · exact hx
  exact this
theorem most_le {G : oV} (hG : GW G) : 0 ≤ mostF G (G 0 0).toNat ∧ mostF G (G 0 0).toNat ≤ G 4 0 := by
  have y4 := hG.2.2.2.2.1
  refine ⟨?_, okC_crowd hG (by omega) (okC_id hG)⟩
  have := it_inv (f := fun d m => if m < popF (hereS G d) then popF (hereS G d) else m) (n := (G 0 0).toNat) (s := (0 : Int)) (fun _ x => 0 ≤ x) (by omega) fun j x j0 j1 hx => by
    show 0 ≤ (if x < popF (hereS G j) then popF (hereS G j) else x)
    split
    · exact (pop_le (x := hereS G j)).1
    · exact hx
  exact this
/-- good rows that begin so; the first of them -/
def exT (G : oV) (n : Int) (p : Int) (f g : Int → Int) : Prop := okC G n g ∧ ∀ q, 0 ≤ q → q < p → g q = f q
def lexP (G : oV) (n : Int) (p : Int) (f f' : Int → Int) : Prop := exT G n p f f' ∧ ∀ g, exT G n p f g → (∀ q, 0 ≤ q → q < G 4 0 → g q = f' q) ∨ ∃ q, 0 ≤ q ∧ q < G 4 0 ∧ (∀ r, 0 ≤ r → r < q → g r = f' r) ∧ f' q < g q
/-- a colour beyond the next one may be exchanged with it -/
theorem swap_ex {G : oV} {n p x y : Int} {f g : Int → Int} (hp : 0 ≤ p) (hp4 : p < G 4 0) (hg : exT G n p f g) (hx : ∀ q, 0 ≤ q → q < p → f q < x) (hx0 : 0 ≤ x) (hxy : x < y) (hy : g p = y) : ∃ g', exT G n p f g' ∧ g' p = x := by
  have hyn := (hg.1 p hp hp4).1
  refine ⟨fun q => if g q = x then y else if g q = y then x else g q, ⟨fun q q0 q1 => ⟨?_, fun r r0 r1 ht => ?_⟩, fun q q0 q1 => ?_⟩, ?_⟩
  · have := (hg.1 q q0 q1).1
    show 0 ≤ (if g q = x then y else if g q = y then x else g q) ∧ (if g q = x then y else if g q = y then x else g q) < n
    split
    · omega
    · split <;> omega
  · have := (hg.1 q q0 q1).2 r r0 r1 ht
    show (if g r = x then y else if g r = y then x else g r) ≠ (if g q = x then y else if g q = y then x else g q)
    repeat' split
    all_goals omega
  · have e := hg.2 q q0 q1
    have := hx q q0 q1
    show (if g q = x then y else if g q = y then x else g q) = f q
    rw [if_neg (by omega), if_neg (by omega), e]
  · show (if g p = x then y else if g p = y then x else g p) = x
    rw [if_neg (by omega), if_pos hy]
