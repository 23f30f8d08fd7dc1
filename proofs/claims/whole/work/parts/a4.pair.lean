/-! PAIRINGS: ways to give places, as sets of places taken -/
def chil (ch : Nat → Nat → Bool) (P i m : Nat) : List Nat := ((List.range P).filter (fun k => !m.testBit k && ch i k)).map (fun k => m + 2 ^ k)
def Mk (ch : Nat → Nat → Bool) (P : Nat) : Nat → List Nat
  | 0 => [0]
  | i + 1 => (Mk ch P i).flatMap (chil ch P i)
def nW (ch : Nat → Nat → Bool) (P : Nat) : Nat → Nat → Nat → Nat
  | 0, _, _ => 1
  | r + 1, i, m => ((chil ch P i m).map (nW ch P r (i + 1))).sum
theorem sum_flat {α β : Type} (f : α → List β) (g : β → Nat) : ∀ l : List α, ((l.flatMap f).map g).sum = (l.map (fun m => ((f m).map g).sum)).sum
  | [] => rfl
  | a :: l => by
    rw [List.flatMap_cons, List.map_append, List.sum_append, sum_flat f g l]
    rfl
theorem Mk_sum {ch : Nat → Nat → Bool} {P : Nat} : ∀ {i r : Nat}, ((Mk ch P i).map (nW ch P r i)).sum = nW ch P (i + r) 0 0
  | 0, r => by
    show nW ch P r 0 0 + 0 = nW ch P (0 + r) 0 0
    rw [Nat.zero_add]
    omega
  | i + 1, r => by
    show (((Mk ch P i).flatMap (chil ch P i)).map (nW ch P r (i + 1))).sum = _
    rw [sum_flat]
    have := Mk_sum (ch := ch) (P := P) (i := i) (r := r + 1)
    have e : i + (r + 1) = i + 1 + r := by omega
    rw [e] at this
    exact this
theorem Mk_len {ch : Nat → Nat → Bool} {P n : Nat} : (Mk ch P n).length = nW ch P n 0 0 := by
  have := Mk_sum (ch := ch) (P := P) (i := n) (r := 0)
  rw [Nat.add_zero] at this
  rw [← this]
  have h : ∀ l : List Nat, (l.map (nW ch P 0 n)).sum = l.length := fun l => by
    induction l with
    | nil => rfl
    | cons a l ih =>
      rw [List.map_cons, List.sum_cons, ih, List.length_cons]
      show 1 + l.length = _
      omega
  rw [h]
/-- a set with one more is another less one -/
theorem bit_eq {m k S : Nat} : (m.testBit k = false ∧ m + 2 ^ k = S) ↔ (S.testBit k = true ∧ m = S - 2 ^ k) := by
  constructor
  · rintro ⟨h1, rfl⟩
    refine ⟨?_, by omega⟩
    rw [Nat.add_comm, Nat.testBit_two_pow_add_eq, h1]
    rfl
  · rintro ⟨h1, rfl⟩
    have h2 : 2 ^ k ≤ S := Nat.ge_two_pow_of_testBit h1
    have h3 : 2 ^ k + (S - 2 ^ k) = S := by omega
    refine ⟨?_, by omega⟩
    have := Nat.testBit_two_pow_add_eq (S - 2 ^ k) k
    rw [h3, h1] at this
    cases hb : (S - 2 ^ k).testBit k
    · rfl
    · rw [hb] at this; cases this
def cS (S : Nat) (l : List Nat) : Nat := (l.map (fun m => if m = S then 1 else 0)).sum
theorem cS_chil {ch : Nat → Nat → Bool} {P i m S : Nat} : cS S (chil ch P i m) = ((List.range P).map (fun k => if S.testBit k = true ∧ ch i k = true ∧ m = S - 2 ^ k then 1 else 0)).sum := by
  unfold chil cS
  generalize List.range P = L
  induction L with
  | nil => rfl
  | cons k L ih =>
    rw [List.filter_cons]
    have hb := bit_eq (m := m) (k := k) (S := S)
    by_cases h : (!m.testBit k && ch i k) = true
    · rw [if_pos h]
      simp only [List.map_cons, List.sum_cons, ih]
      congr 1
      simp only [Bool.and_eq_true, Bool.not_eq_true'] at h
      by_cases e : m + 2 ^ k = S
      · have := hb.mp ⟨h.1, e⟩
        rw [if_pos e, if_pos ⟨this.1, h.2, this.2⟩]
      · rw [if_neg e, if_neg (fun q => e (hb.mpr ⟨q.1, q.2.2⟩).2)]
    · rw [if_neg h]
      simp only [List.map_cons, List.sum_cons, ih]
      rw [if_neg (fun q => h (by
        have := hb.mpr ⟨q.1, q.2.2⟩
        simp [this.1, q.2.1]))]
      omega
theorem sum_add {α : Type} (f g : α → Nat) : ∀ l : List α, (l.map (fun x => f x + g x)).sum = (l.map f).sum + (l.map g).sum
  | [] => rfl
  | a :: l => by
    simp only [List.map_cons, List.sum_cons, sum_add f g l]
    omega
theorem cS_Mk {ch : Nat → Nat → Bool} {P i S : Nat} : cS S (Mk ch P (i + 1)) = ((List.range P).map (fun k => if S.testBit k = true ∧ ch i k = true then cS (S - 2 ^ k) (Mk ch P i) else 0)).sum := by
  show cS S ((Mk ch P i).flatMap (chil ch P i)) = _
  unfold cS
  rw [sum_flat]
  have e : ∀ m, ((chil ch P i m).map (fun m => if m = S then 1 else 0)).sum = ((List.range P).map (fun k => if S.testBit k = true ∧ ch i k = true ∧ m = S - 2 ^ k then 1 else 0)).sum := fun m => cS_chil
  simp only [e]
  generalize Mk ch P i = M
  induction M with
  | nil =>
    simp only [List.map_nil, List.sum_nil]
    generalize List.range P = L
    induction L with
    | nil => rfl
    | cons k L ih => simp only [List.map_cons, List.sum_cons, ← ih]; split <;> rfl
  | cons m M ih =>
    simp only [List.map_cons, List.sum_cons, ih]
    rw [← sum_add]
    congr 1
    apply List.map_congr_left
    intro k _
    by_cases h : S.testBit k = true ∧ ch i k = true
    · rw [if_pos h, if_pos h]
      by_cases e2 : m = S - 2 ^ k
      · rw [if_pos ⟨h.1, h.2, e2⟩, if_pos e2]
      · rw [if_neg (fun q => e2 q.2.2), if_neg e2]
    · rw [if_neg h, if_neg h, if_neg (fun q => h ⟨q.1, q.2.1⟩)]
theorem cS_tot {Q : Nat → Bool} {N : Nat} : ∀ {l : List Nat}, (∀ m ∈ l, m < N ∧ Q m = true) → ((List.range N).map (fun S => if Q S = true then cS S l else 0)).sum = l.length
  | [], _ => by
    have : ∀ L : List Nat, (L.map (fun S => if Q S = true then cS S [] else 0)).sum = 0 := fun L => by
      induction L with
      | nil => rfl
      | cons a L ih => rw [List.map_cons, List.sum_cons, ih]; split <;> rfl
    exact this _
  | m :: l, h => by
    have ih := cS_tot (l := l) fun x hx => h x (List.mem_cons_of_mem _ hx)
    have hm := h m (List.mem_cons_self ..)
    have e : ∀ S, (if Q S = true then cS S (m :: l) else 0) = (if Q S = true then cS S l else 0) + (if m = S then 1 else 0) := fun S => by
      unfold cS
      rw [List.map_cons, List.sum_cons]
      by_cases q : Q S = true
      · rw [if_pos q, if_pos q]; omega
      · rw [if_neg q, if_neg q]
        by_cases e : m = S
        · rw [← e] at q; exact absurd hm.2 q
        · rw [if_neg e]
    simp only [e]
    rw [sum_add, ih, List.length_cons]
    congr 1
    have : ∀ N, m < N → ((List.range N).map (fun S => if m = S then 1 else 0)).sum = 1 := fun N => by
      have hz : ∀ N, N ≤ m → ((List.range N).map (fun S => if m = S then 1 else 0)).sum = 0 := fun N => by
        induction N with
        | zero => intro _; rfl
        | succ N ih2 =>
          intro hN
          rw [List.range_succ, List.map_append, List.sum_append, ih2 (by omega)]
          simp only [List.map_cons, List.map_nil, List.sum_cons, List.sum_nil]
          rw [if_neg (by omega)]
          rfl
      induction N with
      | zero => intro h; omega
      | succ N ih2 =>
        intro hN
        rw [List.range_succ, List.map_append, List.sum_append]
        simp only [List.map_cons, List.map_nil, List.sum_cons, List.sum_nil]
        by_cases e : m = N
        · rw [hz N (by omega), if_pos e]
          rfl
        · rw [ih2 (by omega), if_neg e]
          rfl
    exact this N hm.1
theorem mk_dec : ∀ P ∈ List.range 9, ∀ m ∈ List.range (2 ^ P), ∀ k ∈ List.range P, m.testBit k = false → m + 2 ^ k < 2 ^ P ∧ popF ((m + 2 ^ k : Nat) : Int) = popF (m : Int) + 1 := by decide +kernel
theorem Mk_mem {ch : Nat → Nat → Bool} {P : Nat} (hP : P ≤ 8) : ∀ {i m : Nat}, m ∈ Mk ch P i → m < 2 ^ P ∧ popF (m : Int) = (i : Int)
  | 0, m, h => by
    have : m = 0 := by simpa [Mk] using h
    subst this
    exact ⟨Nat.two_pow_pos P, by decide⟩
  | i + 1, m, h => by
    obtain ⟨x, hx, hm⟩ := List.mem_flatMap.mp h
    obtain ⟨k, hk, rfl⟩ := List.mem_map.mp hm
    have hk2 := List.mem_filter.mp hk
    have ih := Mk_mem hP hx
    simp only [Bool.and_eq_true, Bool.not_eq_true'] at hk2
    have := mk_dec P (List.mem_range.mpr (by omega)) x (List.mem_range.mpr ih.1) k hk2.1 hk2.2.1
    refine ⟨this.1, ?_⟩
    rw [this.2, ih.2]
    rfl
theorem chil_len {ch : Nat → Nat → Bool} {P i m : Nat} : (chil ch P i m).length ≤ P := by
  unfold chil
  rw [List.length_map]
  have := List.length_filter_le (fun k => !m.testBit k && ch i k) (List.range P)
  rw [List.length_range] at this
  exact this
theorem Mk_le {ch : Nat → Nat → Bool} {P : Nat} (hP : P ≤ 8) : ∀ {i : Nat}, (Mk ch P i).length ≤ 8 ^ i
  | 0 => Nat.le_refl _
  | i + 1 => by
    have ih := Mk_le (ch := ch) hP (i := i)
    show ((Mk ch P i).flatMap (chil ch P i)).length ≤ _
    have h : ∀ l : List Nat, (l.flatMap (chil ch P i)).length ≤ l.length * 8 := fun l => by
      induction l with
      | nil => exact Nat.le_refl _
      | cons a l ih2 =>
        rw [List.flatMap_cons, List.length_append, List.length_cons]
        have := chil_len (ch := ch) (P := P) (i := i) (m := a)
        omega
    have := h (Mk ch P i)
    rw [Nat.pow_succ]
    omega
theorem cS_le {S : Nat} : ∀ {l : List Nat}, cS S l ≤ l.length
  | [] => Nat.le_refl _
  | a :: l => by
    have := cS_le (S := S) (l := l)
    unfold cS at this ⊢
    rw [List.map_cons, List.sum_cons, List.length_cons]
    split <;> omega
