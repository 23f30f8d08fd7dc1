/-! THE START: what the constructors make holds the invariant -/
def hq1 : Option (Option Nat × gH) := nwR (gOr nB 60) 11 gF_11 87 a0 [] g0H
def hq2 : Option (Option Nat × gH) := hq1.bind fun x => nwR (gOr nB 60) 13 gF_13 170 a0 [] x.2
def hq3 : Option (Option Nat × gH) := hq2.bind fun x => naR 2 (kI 1) [] x.2
def hS : gH := (hq3.getD (none, g0H)).2
theorem hq1_n : hq1.map (fun x => (x.1, x.2.1.1)) = some (some 0, 305) := by decide +kernel
theorem hq2_n : hq2.map (fun x => (x.1, x.2.1.1)) = some (some 305, 330) := by decide +kernel
theorem hq3_n : hq3.map (fun x => (x.1, x.2.1.1)) = some (some 330, 331) := by decide +kernel
theorem hS_1 : hS.1.1 = 331 := by decide +kernel
theorem hS_r : hS.1.2.1 ≤ 400 ∧ hS.1.2.2 ≤ 20000 := by decide +kernel
theorem op_fst {o : Option (Option Nat × gH)} {r : Option Nat} {n : Nat} (h : o.map (fun x => (x.1, x.2.1.1)) = some (r, n)) : ∃ h1 : gH, o = some (r, h1) := by
  cases o with
  | none => cases h
  | some x =>
    obtain ⟨a, b⟩ := x
    have h : some (a, b.1.1) = some (r, n) := h
    cases h
    exact ⟨b, rfl⟩
theorem st_all : ∃ h1 h2 : gH, nwR (gOr nB 60) 11 gF_11 87 a0 [] g0H = some (some 0, h1) ∧ nwR (gOr nB 60) 13 gF_13 170 a0 [] h1 = some (some 305, h2) ∧ naR 2 (kI 1) [] h2 = some (some 330, hS) := by
  obtain ⟨h1, e1⟩ := op_fst hq1_n
  obtain ⟨h2, e2⟩ := op_fst hq2_n
  obtain ⟨h3, e3⟩ := op_fst hq3_n
  have q1 : hq1 = nwR (gOr nB 60) 11 gF_11 87 a0 [] g0H := rfl
  refine ⟨h1, h2, q1.symm.trans e1, ?_, ?_⟩
  · have q : hq2 = hq1.bind fun x => nwR (gOr nB 60) 13 gF_13 170 a0 [] x.2 := rfl
    rw [e1, e2] at q
    simp only [Option.bind_some] at q
    exact q.symm
  · have q : hq3 = hq2.bind fun x => naR 2 (kI 1) [] x.2 := rfl
    have s : hS = (hq3.getD (none, g0H)).2 := rfl
    rw [e3] at s
    rw [e2, e3] at q
    simp only [Option.bind_some] at q
    simp only [Option.getD_some] at s
    rw [s]
    exact q.symm
/-- the memory read off a heap -/
def rdV (h : gH) (v : gAV) (i : Int) : Int := match v with
  | .inl z => z
  | .inr (.inl z) => z
  | .inr (.inr (.inl none)) => -1
  | .inr (.inr (.inl (some r))) => (match h.2 r with
    | some (.inr (.inl (_, _, f))) => f i
    | _ => (r : Int))
  | .inr (.inr (.inr _)) => 0
def rdM (h : gH) : Mem := fun a k i => match h.2 a with
  | some (.inl (_, fs)) => (match fs[k]? with
    | some v => rdV h v i
    | none => 0)
  | _ => 0
def ckA (o : Option gOb) (a ty N : Nat) : Bool :=
  if ty = 10 then true
  else if ty = 12 then (match o with
    | some (.inr (.inr (t, n, q))) => (t == 0 && n == N) && (List.range N).all (fun i => q (i : Int) == some (a + 13 + 4 * i))
    | _ => false)
  else if ty = 13 then (match o with
    | some (.inr (.inr (t, n, q))) => (t == 1 && n == N) && (List.range N).all (fun i => q (i : Int) == some (a + 3 + 7 * i))
    | _ => false)
  else if ty = 14 then (match o with
    | some (.inr (.inr (t, n, q))) => (t == 1 && n == N) && (List.range N).all (fun i => q (i : Int) == some (a + 115 + 7 * i))
    | _ => false)
  else (match o with
    | some (.inr (.inl (t, n, _))) => t == ty - 2 && n == N
    | _ => false)
def ckV (h : gH) (a ty off N : Nat) (v : gAV) : Bool :=
  if ty = 0 then (match v with
    | .inl _ => true
    | _ => false)
  else if ty = 1 then (match v with
    | .inr (.inl _) => true
    | _ => false)
  else if ty = 9 then (match v with
    | .inr (.inr (.inl none)) => true
    | .inr (.inr (.inl (some r))) => (match h.2 r with
      | some (.inl _) => true
      | _ => false)
    | _ => false)
  else if ty = 11 then (match v with
    | .inr (.inr (.inl (some r))) => r == off
    | _ => false)
  else (match v with
    | .inr (.inr (.inl (some r))) => r == a + off && ckA (h.2 r) a ty N
    | _ => false)
def ckO (h : gH) (a ci : Nat) : Bool := match h.2 a with
  | some (.inl (c, fs)) => (c == ci && fs.length == (tab ci).length) && (List.range (tab ci).length).all (fun k => match (tab ci)[k]?, fs[k]? with
    | some t, some v => ckV h a t.1 t.2.1 t.2.2 v
    | _, _ => false)
  | _ => false
theorem ckQ_ok {q : Int → Option Nat} {N b s : Nat} (h : (List.range N).all (fun i => q (i : Int) == some (b + s * i)) = true) : ∀ i : Int, 0 ≤ i → i < N → q i = some (b + s * i.toNat) := fun i i0 i1 => by
  have h1 := List.all_eq_true.mp h i.toNat (List.mem_range.mpr (by omega))
  have h2 : q ((i.toNat : Nat) : Int) = some (b + s * i.toNat) := by simpa using h1
  rwa [show ((i.toNat : Nat) : Int) = i by omega] at h2
theorem ckA_ok {h : gH} {a ty off N : Nat} {f : Int → Int} (hc : ckA (h.2 (a + off)) a ty N = true) (hi : isA ty = true) (hf : ∀ i, f i = rdV h (vR (some (a + off))) i) : mArr (h.2 (a + off)) a (ty, off, N) f := by
  have rd : ∀ {t n : Nat} {g : Int → Int}, h.2 (a + off) = some (oA t n g) → ∀ i, f i = g i := fun {t n g} e i => by
    rw [hf i]
    show (match h.2 (a + off) with
      | some (.inr (.inl (_, _, f))) => f i
      | _ => ((a + off : Nat) : Int)) = g i
    rw [e]
  unfold ckA at hc
  by_cases q0 : ty = 10
  · subst q0
    exact absurd hi (by decide)
  rw [if_neg q0] at hc
  by_cases q2 : ty = 12
  · subst q2
    rw [if_pos rfl] at hc
    cases e : h.2 (a + off) with
    | none => rw [e] at hc; cases hc
    | some o =>
      rw [e] at hc
      rcases o with x | x | ⟨t, n, q⟩
      · cases hc
      · cases hc
      · have hc : ((t == 0 && n == N) && (List.range N).all (fun i => q (i : Int) == some (a + 13 + 4 * i))) = true := hc
        obtain ⟨hc1, hc2⟩ := Bool.and_eq_true_iff.mp hc
        obtain ⟨u1, u2⟩ := Bool.and_eq_true_iff.mp hc1
        have u1 : t = 0 := by simpa using u1
        have u2 : n = N := by simpa using u2
        subst u1
        subst u2
        exact ⟨q, rfl, ckQ_ok hc2⟩
  rw [if_neg q2] at hc
  by_cases q3 : ty = 13
  · subst q3
    rw [if_pos rfl] at hc
    cases e : h.2 (a + off) with
    | none => rw [e] at hc; cases hc
    | some o =>
      rw [e] at hc
      rcases o with x | x | ⟨t, n, q⟩
      · cases hc
      · cases hc
      · have hc : ((t == 1 && n == N) && (List.range N).all (fun i => q (i : Int) == some (a + 3 + 7 * i))) = true := hc
        obtain ⟨hc1, hc2⟩ := Bool.and_eq_true_iff.mp hc
        obtain ⟨u1, u2⟩ := Bool.and_eq_true_iff.mp hc1
        have u1 : t = 1 := by simpa using u1
        have u2 : n = N := by simpa using u2
        subst u1
        subst u2
        exact ⟨q, rfl, ckQ_ok hc2⟩
  rw [if_neg q3] at hc
  by_cases q4 : ty = 14
  · subst q4
    rw [if_pos rfl] at hc
    cases e : h.2 (a + off) with
    | none => rw [e] at hc; cases hc
    | some o =>
      rw [e] at hc
      rcases o with x | x | ⟨t, n, q⟩
      · cases hc
      · cases hc
      · have hc : ((t == 1 && n == N) && (List.range N).all (fun i => q (i : Int) == some (a + 115 + 7 * i))) = true := hc
        obtain ⟨hc1, hc2⟩ := Bool.and_eq_true_iff.mp hc
        obtain ⟨u1, u2⟩ := Bool.and_eq_true_iff.mp hc1
        have u1 : t = 1 := by simpa using u1
        have u2 : n = N := by simpa using u2
        subst u1
        subst u2
        exact ⟨q, rfl, ckQ_ok hc2⟩
  rw [if_neg q4] at hc
  unfold mArr
  rw [if_neg (show ¬ ty = 12 from q2), if_neg (show ¬ ty = 13 from q3), if_neg (show ¬ ty = 14 from q4)]
  cases e : h.2 (a + off) with
  | none => rw [e] at hc; cases hc
  | some o =>
    rw [e] at hc
    rcases o with x | ⟨t, n, g⟩ | x
    · cases hc
    · have hc : (t == ty - 2 && n == N) = true := hc
      obtain ⟨u1, u2⟩ := Bool.and_eq_true_iff.mp hc
      have u1 : t = ty - 2 := by simpa using u1
      have u2 : n = N := by simpa using u2
      subst u1
      subst u2
      exact ⟨g, rfl, fun i _ _ => (rd e i).symm⟩
    · cases hc
theorem ckV_ok {h : gH} {a ty off N : Nat} {v : gAV} {f : Int → Int} (hc : ckV h a ty off N v = true) (hf : ∀ i, f i = rdV h v i) : v = mVal a (ty, off, N) f ∧ (isA ty = true → mArr (h.2 (a + off)) a (ty, off, N) f) := by
  unfold ckV at hc
  by_cases q0 : ty = 0
  · subst q0
    rw [if_pos rfl] at hc
    rcases v with z | z | (_ | r) | s
    · refine ⟨?_, fun q => absurd q (by decide)⟩
      show vI z = vI (f 0)
      rw [hf 0]
      rfl
    all_goals cases hc
  rw [if_neg q0] at hc
  by_cases q1 : ty = 1
  · subst q1
    rw [if_pos rfl] at hc
    rcases v with z | z | (_ | r) | s
    · cases hc
    · refine ⟨?_, fun q => absurd q (by decide)⟩
      show vL z = vL (f 0)
      rw [hf 0]
      rfl
    all_goals cases hc
  rw [if_neg q1] at hc
  by_cases q9 : ty = 9
  · subst q9
    rw [if_pos rfl] at hc
    rcases v with z | z | (_ | r) | s
    · cases hc
    · cases hc
    · refine ⟨?_, fun q => absurd q (by decide)⟩
      show vR none = vR (rf (f 0))
      rw [hf 0]
      rfl
    · refine ⟨?_, fun q => absurd q (by decide)⟩
      show vR (some r) = vR (rf (f 0))
      have e0 : f 0 = (r : Int) := by
        rw [hf 0]
        show (match h.2 r with
          | some (.inr (.inl (_, _, f))) => f 0
          | _ => (r : Int)) = (r : Int)
        have hc : (match h.2 r with
          | some (.inl _) => true
          | _ => false) = true := hc
        cases e : h.2 r with
        | none => rfl
        | some o =>
          rw [e] at hc
          rcases o with x | x | x
          · rfl
          · cases hc
          · rfl
      rw [e0, rf_nat]
    · cases hc
  rw [if_neg q9] at hc
  by_cases q11 : ty = 11
  · subst q11
    rw [if_pos rfl] at hc
    rcases v with z | z | (_ | r) | s
    · cases hc
    · cases hc
    · cases hc
    · refine ⟨?_, fun q => absurd q (by decide)⟩
      have hc : (r == off) = true := hc
      have e : r = off := by simpa using hc
      rw [e]
      rfl
    · cases hc
  rw [if_neg q11] at hc
  rcases v with z | z | (_ | r) | s
  · cases hc
  · cases hc
  · cases hc
  · have hc : (r == a + off && ckA (h.2 r) a ty N) = true := hc
    obtain ⟨u1, u2⟩ := Bool.and_eq_true_iff.mp hc
    have u1 : r = a + off := by simpa using u1
    subst u1
    refine ⟨?_, fun q => ckA_ok u2 q hf⟩
    unfold mVal
    rw [if_neg (show ¬ ty = 0 from q0), if_neg (show ¬ ty = 1 from q1), if_neg (show ¬ ty = 9 from q9), if_neg (show ¬ ty = 11 from q11)]
  · cases hc
theorem ckO_ok {h : gH} {a ci : Nat} (hk : ckO h a ci = true) : mOb h a ci (rdM h a) := by
  unfold ckO at hk
  cases e : h.2 a with
  | none => rw [e] at hk; cases hk
  | some o =>
    rw [e] at hk
    rcases o with ⟨c, fs⟩ | x
    · have hk : ((c == ci && fs.length == (tab ci).length) && (List.range (tab ci).length).all (fun k => match (tab ci)[k]?, fs[k]? with
        | some t, some v => ckV h a t.1 t.2.1 t.2.2 v
        | _, _ => false)) = true := hk
      obtain ⟨hk1, hk2⟩ := Bool.and_eq_true_iff.mp hk
      obtain ⟨u1, u2⟩ := Bool.and_eq_true_iff.mp hk1
      have u1 : c = ci := by simpa using u1
      have u2 : fs.length = (tab ci).length := by simpa using u2
      subst u1
      refine ⟨fs, e, u2, fun k t hkt => ?_⟩
      have hlt : k < (tab c).length := (List.getElem?_eq_some_iff.mp hkt).1
      have h1 := List.all_eq_true.mp hk2 k (List.mem_range.mpr hlt)
      obtain ⟨v, hv⟩ : ∃ v, fs[k]? = some v := ⟨_, List.getElem?_eq_getElem (by omega)⟩
      rw [hkt, hv] at h1
      have h2 : ckV h a t.1 t.2.1 t.2.2 v = true := h1
      have hr : ∀ i, rdM h a k i = rdV h v i := fun i => by
        have q : rdM h a k i = (match h.2 a with
          | some (.inl (_, fs)) => (match fs[k]? with
            | some v => rdV h v i
            | none => 0)
          | _ => 0) := rfl
        rw [q, e]
        show (match fs[k]? with
            | some v => rdV h v i
            | none => 0) = rdV h v i
        rw [hv]
      rw [hv]
      obtain ⟨w1, w2⟩ := ckV_ok h2 hr
      exact ⟨congrArg some w1, w2⟩
    · cases hk
