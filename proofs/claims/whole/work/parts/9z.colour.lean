/-! COLOURS in the reference: the first row of the fewest -/
def sW (n : Nat) : Nat → Nat
  | 0 => 0
  | k + 1 => n * (1 + sW n k) + 1
def muS (n P : Nat) (f : Int → Int) : Nat → Nat
  | 0 => 0
  | k + 1 => muS n P f k + (((n : Int) - 1 - f k).toNat * (1 + sW n (P - k - 1)) + 1)
theorem muS_cg {n P : Nat} {f f' : Int → Int} : ∀ {k : Nat}, (∀ q : Nat, q < k → f q = f' q) → muS n P f k = muS n P f' k
  | 0, _ => rfl
  | k + 1, h => by
    show muS n P f k + _ = muS n P f' k + _
    rw [muS_cg fun q hq => h q (by omega), h k (by omega)]
theorem sW_le {n k : Nat} (hn : n ≤ 7) : sW n k ≤ sW 7 k := by
  induction k with
  | zero => exact Nat.le_refl _
  | succ k ih =>
    show n * (1 + sW n k) + 1 ≤ 7 * (1 + sW 7 k) + 1
    have := Nat.mul_le_mul hn (Nat.add_le_add_left ih 1)
    omega
theorem sW_7 : ∀ k ∈ List.range 8, sW 7 k ≤ 10000000 := by decide +kernel
/-- where the search stands: people up to p have colours f, p's were tried up to f p; what comes later -/
def GT (f : Int → Int) (p : Nat) (P : Int) (f' : Int → Int) : Prop := (∃ q : Int, 0 ≤ q ∧ q < p ∧ (∀ r : Int, 0 ≤ r → r < q → f' r = f r) ∧ f q < f' q) ∨ ((∀ r : Int, 0 ≤ r → r < p → f' r = f r) ∧ ((p : Int) < P → f p < f' p))
def BT (G : oV) (n : Int) (p : Nat) (f : Int → Int) : Prop := (∀ q : Int, 0 ≤ q → q < p → (0 ≤ f q ∧ f q < n) ∧ ∀ r : Int, 0 ≤ r → r < q → togB G q r = true → f r ≠ f q) ∧ ((p : Int) < G 4 0 → -1 ≤ f p ∧ f p < n) ∧ (∀ q : Int, (p : Int) < q → q < 7 → f q = -1) ∧ ∀ f', okC G n f' → GT f p (G 4 0) f'
theorem BT_0 {G : oV} {n : Int} (hG : GW G) (hn : 1 ≤ n) {f : Int → Int} (hf : ∀ q : Int, 0 ≤ q → q < 7 → f q = -1) : BT G n 0 f := by
  have y4 := hG.2.2.2.2.1
  refine ⟨fun q q0 q1 => by omega, fun _ => by show -1 ≤ f 0 ∧ f 0 < n; rw [hf 0 (by omega) (by omega)]; omega, fun q q0 q1 => hf q (by omega) q1, fun f' hf' => Or.inr ⟨fun r r0 r1 => by omega, fun _ => ?_⟩⟩
  have := (hf' 0 (by omega) (by omega)).1
  show f 0 < f' 0
  rw [hf 0 (by omega) (by omega)]
  omega
/-- all colours of p were tried: back to the one before -/
theorem BT_back {G : oV} {n : Int} {p : Nat} {f : Int → Int} (hp : ((p + 1 : Nat) : Int) < G 4 0) (h7 : G 4 0 ≤ 7) (h : BT G n (p + 1) f) (hv : f ((p + 1 : Nat) : Int) + 1 = n) : BT G n p (gUz f ((p + 1 : Nat) : Int) (-1)) := by
  obtain ⟨h1, h2, h3, h4⟩ := h
  have e : ∀ q : Int, q < ((p + 1 : Nat) : Int) → gUz f ((p + 1 : Nat) : Int) (-1) q = f q := fun q hq => gUz_ne (by omega)
  refine ⟨fun q q0 q1 => ?_, fun _ => ?_, fun q q0 q1 => ?_, fun f' hf' => ?_⟩
  · rw [e q (by omega)]
    refine ⟨(h1 q q0 (by omega)).1, fun r r0 r1 ht => ?_⟩
    rw [e r (by omega)]
    exact (h1 q q0 (by omega)).2 r r0 r1 ht
  · rw [e p (by omega)]
    have := (h1 p (by omega) (by omega)).1
    omega
  · by_cases eq : q = ((p + 1 : Nat) : Int)
    · rw [eq, gUz_at]
    · rw [gUz_ne eq]
      exact h3 q (by omega) q1
  · rcases h4 f' hf' with ⟨q, q0, q1, q2, q3⟩ | ⟨q1, q2⟩
    · by_cases eq : q = (p : Int)
      · subst eq
        refine Or.inr ⟨fun r r0 r1 => by rw [e r (by omega)]; exact q2 r r0 r1, fun _ => by rw [e _ (by omega)]; exact q3⟩
      · refine Or.inl ⟨q, q0, by omega, fun r r0 r1 => by rw [e r (by omega)]; exact q2 r r0 r1, by rw [e q (by omega)]; exact q3⟩
    · have := (hf' ((p + 1 : Nat) : Int) (by omega) hp).1
      have := q2 hp
      omega
theorem BT_none {G : oV} {n : Int} {f : Int → Int} (hp : 0 < G 4 0) (h : BT G n 0 f) (hv : f 0 + 1 = n) : ∀ f', ¬ okC G n f' := fun f' hf' => by
  rcases h.2.2.2 f' hf' with ⟨q, q0, q1, -⟩ | ⟨-, q2⟩
  · omega
  · have a := q2 hp
    have b := (hf' 0 (by omega) hp).1
    have a : f 0 < f' 0 := a
    omega
/-- p's next colour is good -/
theorem BT_good {G : oV} {n : Int} {p : Nat} {f : Int → Int} (hp : (p : Int) < G 4 0) (h7 : G 4 0 ≤ 7) (h : BT G n p f) (hv : ¬ f p + 1 = n) (hgood : ∀ r : Int, 0 ≤ r → r < p → ¬ (f r = f p + 1 ∧ togB G p r = true)) : BT G n (p + 1) (gUz f p (f p + 1)) := by
  obtain ⟨h1, h2, h3, h4⟩ := h
  have b := h2 hp
  have e : ∀ q : Int, q ≠ p → gUz f p (f p + 1) q = f q := fun q hq => gUz_ne hq
  refine ⟨fun q q0 q1 => ?_, fun q1 => ?_, fun q q0 q1 => ?_, fun f' hf' => ?_⟩
  · by_cases eq : q = (p : Int)
    · subst eq
      rw [gUz_at]
      refine ⟨by omega, fun r r0 r1 ht => ?_⟩
      rw [e r (by omega)]
      exact fun q => hgood r r0 r1 ⟨q, ht⟩
    · rw [e q eq]
      refine ⟨(h1 q q0 (by omega)).1, fun r r0 r1 ht => ?_⟩
      rw [e r (by omega)]
      exact (h1 q q0 (by omega)).2 r r0 r1 ht
  · rw [e _ (by omega), h3 _ (by omega) (by omega)]
    omega
  · rw [e q (by omega)]
    exact h3 q (by omega) q1
  · rcases h4 f' hf' with ⟨q, q0, q1, q2, q3⟩ | ⟨q1, q2⟩
    · exact Or.inl ⟨q, q0, by omega, fun r r0 r1 => by rw [e r (by omega)]; exact q2 r r0 r1, by rw [e q (by omega)]; exact q3⟩
    · have a := q2 hp
      by_cases ev : f' p = f p + 1
      · refine Or.inr ⟨fun r r0 r1 => ?_, fun z => ?_⟩
        · by_cases er : r = (p : Int)
          · rw [er, gUz_at]; exact ev
          · rw [e r er]; exact q1 r r0 (by omega)
        · rw [e _ (by omega), h3 _ (by omega) (by omega)]
          have := (hf' ((p + 1 : Nat) : Int) (by omega) z).1
          omega
      · exact Or.inl ⟨p, by omega, by omega, fun r r0 r1 => by rw [e r (by omega)]; exact q1 r r0 r1, by rw [gUz_at]; omega⟩
/-- it is not -/
theorem BT_bad {G : oV} {n : Int} {p : Nat} {f : Int → Int} (hp : (p : Int) < G 4 0) (h : BT G n p f) (hv : ¬ f p + 1 = n) (hbad : ∃ r : Int, 0 ≤ r ∧ r < p ∧ f r = f p + 1 ∧ togB G p r = true) : BT G n p (gUz f p (f p + 1)) := by
  obtain ⟨h1, h2, h3, h4⟩ := h
  have b := h2 hp
  have e : ∀ q : Int, q ≠ p → gUz f p (f p + 1) q = f q := fun q hq => gUz_ne hq
  refine ⟨fun q q0 q1 => ?_, fun q1 => by rw [gUz_at]; omega, fun q q0 q1 => by rw [e q (by omega)]; exact h3 q q0 q1, fun f' hf' => ?_⟩
  · rw [e q (by omega)]
    refine ⟨(h1 q q0 (by omega)).1, fun r r0 r1 ht => ?_⟩
    rw [e r (by omega)]
    exact (h1 q q0 (by omega)).2 r r0 r1 ht
  · rcases h4 f' hf' with ⟨q, q0, q1, q2, q3⟩ | ⟨q1, q2⟩
    · exact Or.inl ⟨q, q0, q1, fun r r0 r1 => by rw [e r (by omega)]; exact q2 r r0 r1, by rw [e q (by omega)]; exact q3⟩
    · have a := q2 hp
      refine Or.inr ⟨fun r r0 r1 => by rw [e r (by omega)]; exact q1 r r0 r1, fun _ => ?_⟩
      rw [gUz_at]
      obtain ⟨r, r0, r1, r2, r3⟩ := hbad
      have c1 := (hf' p (by omega) hp).2 r r0 r1 r3
      rw [q1 r r0 r1] at c1
      omega
def lexM (G : oV) (n : Int) (f : Int → Int) : Prop := okC G n f ∧ ∀ f', okC G n f' → (∀ p, 0 ≤ p → p < G 4 0 → f' p = f p) ∨ ∃ p, 0 ≤ p ∧ p < G 4 0 ∧ (∀ q, 0 ≤ q → q < p → f' q = f q) ∧ f p < f' p
theorem BT_end {G : oV} {n : Int} {p : Nat} {f : Int → Int} (hp : (p : Int) = G 4 0) (h : BT G n p f) : lexM G n f := by
  refine ⟨fun q q0 q1 => h.1 q q0 (by omega), fun f' hf' => ?_⟩
  rcases h.2.2.2 f' hf' with ⟨q, q0, q1, q2, q3⟩ | ⟨q1, -⟩
  · exact Or.inr ⟨q, q0, by omega, q2, q3⟩
  · exact Or.inl fun r r0 r1 => q1 r r0 (by omega)
theorem mu_good {n P p : Nat} {f : Int → Int} (hv : f p + 1 < n) (hf1 : -1 ≤ f p) (hP : p + 1 < P) (h3 : f ((p + 1 : Nat) : Int) = -1) : muS n P (gUz f p (f p + 1)) (p + 2) < muS n P f (p + 1) := by
  have e0 : muS n P (gUz f p (f p + 1)) p = muS n P f p := muS_cg fun q hq => gUz_ne (by omega)
  have e1 : gUz f p (f p + 1) ((p + 1 : Nat) : Int) = -1 := by rw [gUz_ne (by omega)]; exact h3
  show muS n P (gUz f p (f p + 1)) p + (((n : Int) - 1 - gUz f p (f p + 1) p).toNat * (1 + sW n (P - p - 1)) + 1) + (((n : Int) - 1 - gUz f p (f p + 1) ((p + 1 : Nat) : Int)).toNat * (1 + sW n (P - (p + 1) - 1)) + 1) < muS n P f p + (((n : Int) - 1 - f p).toNat * (1 + sW n (P - p - 1)) + 1)
  rw [e0, e1, gUz_at]
  obtain ⟨k, hk⟩ : ∃ k, P - p - 1 = k + 1 := ⟨P - p - 2, by omega⟩
  have hk2 : P - (p + 1) - 1 = k := by omega
  have en : ((n : Int) - 1 - -1).toNat = n := by omega
  have et : ((n : Int) - 1 - f p).toNat = ((n : Int) - 1 - (f p + 1)).toNat + 1 := by omega
  rw [hk2, hk, en, et, Nat.succ_mul]
  have es : sW n (k + 1) = n * (1 + sW n k) + 1 := rfl
  omega
theorem mu_less {n P p : Nat} {f : Int → Int} (hv : f p + 1 < n) (hf1 : -1 ≤ f p) : muS n P (gUz f p (f p + 1)) (p + 1) < muS n P f (p + 1) := by
  have e0 : muS n P (gUz f p (f p + 1)) p = muS n P f p := muS_cg fun q hq => gUz_ne (by omega)
  show muS n P (gUz f p (f p + 1)) p + (((n : Int) - 1 - gUz f p (f p + 1) p).toNat * (1 + sW n (P - p - 1)) + 1) < muS n P f p + (((n : Int) - 1 - f p).toNat * (1 + sW n (P - p - 1)) + 1)
  rw [e0, gUz_at]
  have et : ((n : Int) - 1 - f p).toNat = ((n : Int) - 1 - (f p + 1)).toNat + 1 := by omega
  rw [et, Nat.succ_mul]
  omega
theorem mu_back {n P p : Nat} {f : Int → Int} : muS n P (gUz f p (-1)) p < muS n P f (p + 1) := by
  have e0 : muS n P (gUz f p (-1)) p = muS n P f p := muS_cg fun q hq => gUz_ne (by omega)
  rw [e0]
  show muS n P f p < muS n P f p + (_ + 1)
  omega
theorem PT_uni {G : oV} {n n' : Int} {f f' : Int → Int} (h : PT G n f) (h' : PT G n' f') : n = n' ∧ ∀ p, 0 ≤ p → p < G 4 0 → f p = f' p := by
  obtain ⟨a1, a2, a3, a4, a5⟩ := h
  obtain ⟨b1, b2, b3, b4, b5⟩ := h'
  have en : n = n' := by
    by_cases q : n < n'
    · exact absurd a3 (b5 n f a1 q)
    · by_cases q2 : n' < n
      · exact absurd b3 (a5 n' f' b1 q2)
      · omega
  subst en
  refine ⟨rfl, ?_⟩
  rcases a4 f' b3 with q | ⟨p, p0, p1, p2, p3⟩
  · exact fun p p0 p1 => (q p p0 p1).symm
  · rcases b4 f a3 with q | ⟨p', p0', p1', p2', p3'⟩
    · exact fun p p0 p1 => q p p0 p1
    · exfalso
      by_cases e : p = p'
      · subst e; omega
      · by_cases l : p < p'
        · have := p2' p p0 l; omega
        · have := p2 p' p0' (by omega); omega
