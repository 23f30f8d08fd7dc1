/-! AN OBJECT WITH ITS OWN ARRAYS: T lists its fields: (0, _, _) a number, (1, _, _) a long, (ty + 2, off, N) its own array of a kind at the number a + off, (9, _, _) else; V k i: what the field k holds (at i) -/
abbrev oT : Type := List (Nat × Nat × Nat)
abbrev oV : Type := Nat → Int → Int
def oRow (h : gH) (a k : Nat) (fs : List gAV) (V : oV) (t : Nat × Nat × Nat) : Prop := match t with
  | (0, _, _) => fs[k]? = some (vI (V k 0))
  | (1, _, _) => fs[k]? = some (vL (V k 0))
  | (9, _, _) => True
  | (ty + 2, off, N) => fs[k]? = some (vR (some (a + off))) ∧ ∃ f : Int → Int, h.2 (a + off) = some (oA ty N f) ∧ ∀ i : Int, 0 ≤ i → i < N → f i = V k i
def OR (h : gH) (a ci : Nat) (T : oT) (V : oV) : Prop := ∃ fs : List gAV, h.2 a = some (oO ci fs) ∧ fs.length = T.length ∧ ∀ (k : Nat) (t : Nat × Nat × Nat), T[k]? = some t → oRow h a k fs V t
/-- its arrays are different ones, none is the object itself -/
def oWf (T : oT) : Bool := (List.range T.length).all (fun k => (List.range T.length).all (fun j => match T[k]?, T[j]? with
  | some (x + 2, o, _), some (y + 2, p, _) => x == 7 || y == 7 || (o != 0 && (k == j || o != p))
  | _, _ => true))
def oUp (V : oV) (k : Nat) (i x : Int) : oV := fun k' i' => if k' = k ∧ i' = i then x else V k' i'
theorem oWf_spec {T : oT} (hw : oWf T = true) {k j : Nat} {x y o p m n : Nat} (hk : T[k]? = some (x + 2, o, m)) (hj : T[j]? = some (y + 2, p, n)) (hx : x ≠ 7) (hy : y ≠ 7) : o ≠ 0 ∧ (k ≠ j → o ≠ p) := by
  have h1 := List.all_eq_true.mp hw k (List.mem_range.mpr (List.getElem?_eq_some_iff.mp hk).1)
  have h2 := List.all_eq_true.mp h1 j (List.mem_range.mpr (List.getElem?_eq_some_iff.mp hj).1)
  simp only [hk, hj] at h2
  simp [hx, hy] at h2
  refine ⟨h2.1, fun hkj => ?_⟩
  rcases h2.2 with e | e
  · exact absurd e hkj
  · exact e
section OB
variable {h : gH} {a ci : Nat} {T : oT} {V : oV}
theorem OR_fld (H : OR h a ci T V) {k o N : Nat} (hk : T[k]? = some (0, o, N)) : gFld ci k h (some a) = some (vI (V k 0)) := by
  obtain ⟨fs, h1, h2, h3⟩ := H
  have := h3 k _ hk
  simp only [oRow] at this
  simp only [gFld, h1, if_true, this]
theorem OR_fldL (H : OR h a ci T V) {k o N : Nat} (hk : T[k]? = some (1, o, N)) : gFld ci k h (some a) = some (vL (V k 0)) := by
  obtain ⟨fs, h1, h2, h3⟩ := H
  have := h3 k _ hk
  simp only [oRow] at this
  simp only [gFld, h1, if_true, this]
theorem OR_arr (H : OR h a ci T V) {k ty off N : Nat} (hty : ty ≠ 7) (hk : T[k]? = some (ty + 2, off, N)) : gFld ci k h (some a) = some (vR (some (a + off))) ∧ ∃ f : Int → Int, h.2 (a + off) = some (oA ty N f) ∧ ∀ i : Int, 0 ≤ i → i < N → f i = V k i := by
  obtain ⟨fs, h1, h2, h3⟩ := H
  have h4 := h3 k _ hk
  have h5 : fs[k]? = some (vR (some (a + off))) ∧ ∃ f : Int → Int, h.2 (a + off) = some (oA ty N f) ∧ ∀ i : Int, 0 ≤ i → i < N → f i = V k i := by
    unfold oRow at h4
    split at h4
    · rename_i e; cases e
    · rename_i e; simp at e
    · rename_i e; simp at e; omega
    · rename_i e; cases e; exact h4
  exact ⟨by simp only [gFld, h1, if_true, h5.1], h5.2⟩
theorem OR_el (H : OR h a ci T V) {k ty off N : Nat} (hty : ty ≠ 7) (hk : T[k]? = some (ty + 2, off, N)) {i : Int} (h0 : 0 ≤ i) (hi : i < N) : gEl ty h (some (a + off)) i = some (V k i) := by
  obtain ⟨-, f, h1, h2⟩ := OR_arr H hty hk
  simp only [gEl, h1]
  rw [if_pos ⟨trivial, h0, hi⟩, h2 i h0 hi]
/-- what lies elsewhere doesn't matter -/
theorem OR_frame (H : OR h a ci T V) {h' : gH} (hf : h'.2 a = h.2 a) (hr : ∀ (k : Nat) (ty off N : Nat), T[k]? = some (ty + 2, off, N) → h'.2 (a + off) = h.2 (a + off)) : OR h' a ci T V := by
  obtain ⟨fs, h1, h2, h3⟩ := H
  refine ⟨fs, by rw [hf]; exact h1, h2, fun k t hk => ?_⟩
  have h4 := h3 k t hk
  unfold oRow at h4 ⊢
  split at h4
  · exact h4
  · exact h4
  · exact h4
  · rename_i ty off N e
    refine ⟨h4.1, ?_⟩
    rw [hr k ty off N hk]
    exact h4.2
theorem OR_put (hw : oWf T = true) (H : OR h a ci T V) {k o N : Nat} (hk : T[k]? = some (0, o, N)) (x : Int) : ∃ h' : gH, gPut ci k (vI x) h (some a) = some h' ∧ OR h' a ci T (oUp V k 0 x) ∧ h'.1 = h.1 ∧ ∀ j, j ≠ a → h'.2 j = h.2 j := by
  obtain ⟨fs, h1, h2, h3⟩ := H
  have hlt : k < fs.length := by rw [h2]; exact (List.getElem?_eq_some_iff.mp hk).1
  refine ⟨(h.1, gUp h.2 a (some (oO ci (fs.set k (vI x))))), ?_, ⟨fs.set k (vI x), by simp [gUp], by simp [h2], fun j t hj => ?_⟩, rfl, fun j hj => by simp [gUp, hj]⟩
  · simp only [gPut, h1]
    rw [if_pos ⟨trivial, hlt⟩]
  · have h4 := h3 j t hj
    by_cases hjk : k = j
    · subst hjk
      rw [hk] at hj
      cases hj
      show (fs.set k (vI x))[k]? = some (vI (oUp V k 0 x k 0))
      rw [List.getElem?_set_self hlt]
      simp [oUp]
    · unfold oRow at h4 ⊢
      rw [List.getElem?_set_ne hjk]
      have hu : ∀ i, oUp V k 0 x j i = V j i := fun i => by simp [oUp]; intro e; exact absurd e.symm hjk
      split at h4
      · rw [hu]; exact h4
      · rw [hu]; exact h4
      · trivial
      · rename_i t' ty off N hne
        refine ⟨h4.1, ?_⟩
        obtain ⟨f, f1, f2⟩ := h4.2
        refine ⟨f, ?_, fun i i0 i1 => by rw [hu]; exact f2 i i0 i1⟩
        have hty : ty ≠ 7 := hne
        have := (oWf_spec hw hj hj hty hty).1
        simp only [gUp]
        rw [if_neg (by omega)]
        exact f1
theorem OR_es (hw : oWf T = true) (H : OR h a ci T V) {k ty off N : Nat} (hty : ty ≠ 7) (hk : T[k]? = some (ty + 2, off, N)) {i : Int} (h0 : 0 ≤ i) (hi : i < N) {x y : Int} (hy : gNar ty x = some y) : ∃ h' : gH, gEs ty x h (some (a + off)) i = some h' ∧ OR h' a ci T (oUp V k i y) ∧ h'.1 = h.1 ∧ ∀ j, j ≠ a + off → h'.2 j = h.2 j := by
  obtain ⟨-, f, f1, f2⟩ := OR_arr H hty hk
  obtain ⟨fs, h1, h2, h3⟩ := H
  have hoff := (oWf_spec hw hk hk hty hty).1
  refine ⟨(h.1, gUp h.2 (a + off) (some (oA ty N (gUz f i y)))), ?_, ⟨fs, ?_, h2, fun j t hj => ?_⟩, rfl, fun j hj => by simp [gUp, hj]⟩
  · simp only [gEs, f1]
    rw [if_pos ⟨trivial, h0, hi⟩, hy]
    rfl
  · simp only [gUp]
    rw [if_neg (by omega)]
    exact h1
  · have h4 := h3 j t hj
    by_cases hjk : k = j
    · subst hjk
      rw [hk] at hj
      cases hj
      unfold oRow at h4 ⊢
      split at h4
      · rename_i e; cases e
      · rename_i e; simp at e
      · rename_i e; simp at e; omega
      · rename_i e
        cases e
        refine ⟨h4.1, gUz f i y, by simp [gUp], fun z z0 z1 => ?_⟩
        simp only [gUz, oUp, true_and]
        split
        · rfl
        · exact f2 z z0 z1
    · have hu : ∀ z, oUp V k i y j z = V j z := fun z => by simp [oUp]; intro e; exact absurd e.symm hjk
      unfold oRow at h4 ⊢
      split at h4
      · rw [hu]; exact h4
      · rw [hu]; exact h4
      · trivial
      · rename_i t' ty2 off2 N2 hne
        refine ⟨h4.1, ?_⟩
        obtain ⟨g, g1, g2⟩ := h4.2
        have hty2 : ty2 ≠ 7 := hne
        have := (oWf_spec hw hk hj hty hty2).2 hjk
        refine ⟨g, ?_, fun z z0 z1 => by rw [hu]; exact g2 z z0 z1⟩
        simp only [gUp]
        rw [if_neg (by omega)]
        exact g1
end OB
