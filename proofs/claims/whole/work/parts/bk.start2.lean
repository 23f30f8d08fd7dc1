/-! THE START: the invariant -/
def obL : List (Nat × Nat) := [(0, 11), (2, 4), (15, 8), (19, 8), (23, 8), (27, 8), (31, 8), (35, 8), (39, 8), (43, 4), (56, 8), (60, 8), (64, 8), (68, 8), (72, 8), (76, 8), (80, 8), (84, 9), (85, 10), (92, 10), (99, 5), (102, 10), (109, 10), (116, 10), (123, 10), (130, 10), (137, 10), (144, 10), (151, 10), (158, 10), (165, 10), (172, 10), (179, 10), (186, 10), (193, 10), (200, 10), (207, 10), (214, 10), (221, 10), (228, 10), (235, 1), (236, 0), (257, 1), (258, 0), (279, 3), (280, 0), (294, 7), (299, 6), (302, 2), (305, 13)]
theorem ob_mem : (List.range 331).all (fun a => match (clL[a]?).getD none with
  | some ci => obL.contains (a, ci)
  | none => true) = true := by decide +kernel
def okOb (p : Nat × Nat) : Prop := ckO hS p.1 p.2 = true
theorem ob_ok : ∀ p ∈ obL, okOb p := List.forall_mem_cons.mpr ⟨ckO_0, List.forall_mem_cons.mpr ⟨ckO_2, List.forall_mem_cons.mpr ⟨ckO_15, List.forall_mem_cons.mpr ⟨ckO_19, List.forall_mem_cons.mpr ⟨ckO_23, List.forall_mem_cons.mpr ⟨ckO_27, List.forall_mem_cons.mpr ⟨ckO_31, List.forall_mem_cons.mpr ⟨ckO_35, List.forall_mem_cons.mpr ⟨ckO_39, List.forall_mem_cons.mpr ⟨ckO_43, List.forall_mem_cons.mpr ⟨ckO_56, List.forall_mem_cons.mpr ⟨ckO_60, List.forall_mem_cons.mpr ⟨ckO_64, List.forall_mem_cons.mpr ⟨ckO_68, List.forall_mem_cons.mpr ⟨ckO_72, List.forall_mem_cons.mpr ⟨ckO_76, List.forall_mem_cons.mpr ⟨ckO_80, List.forall_mem_cons.mpr ⟨ckO_84, List.forall_mem_cons.mpr ⟨ckO_85, List.forall_mem_cons.mpr ⟨ckO_92, List.forall_mem_cons.mpr ⟨ckO_99, List.forall_mem_cons.mpr ⟨ckO_102, List.forall_mem_cons.mpr ⟨ckO_109, List.forall_mem_cons.mpr ⟨ckO_116, List.forall_mem_cons.mpr ⟨ckO_123, List.forall_mem_cons.mpr ⟨ckO_130, List.forall_mem_cons.mpr ⟨ckO_137, List.forall_mem_cons.mpr ⟨ckO_144, List.forall_mem_cons.mpr ⟨ckO_151, List.forall_mem_cons.mpr ⟨ckO_158, List.forall_mem_cons.mpr ⟨ckO_165, List.forall_mem_cons.mpr ⟨ckO_172, List.forall_mem_cons.mpr ⟨ckO_179, List.forall_mem_cons.mpr ⟨ckO_186, List.forall_mem_cons.mpr ⟨ckO_193, List.forall_mem_cons.mpr ⟨ckO_200, List.forall_mem_cons.mpr ⟨ckO_207, List.forall_mem_cons.mpr ⟨ckO_214, List.forall_mem_cons.mpr ⟨ckO_221, List.forall_mem_cons.mpr ⟨ckO_228, List.forall_mem_cons.mpr ⟨ckO_235, List.forall_mem_cons.mpr ⟨ckO_236, List.forall_mem_cons.mpr ⟨ckO_257, List.forall_mem_cons.mpr ⟨ckO_258, List.forall_mem_cons.mpr ⟨ckO_279, List.forall_mem_cons.mpr ⟨ckO_280, List.forall_mem_cons.mpr ⟨ckO_294, List.forall_mem_cons.mpr ⟨ckO_299, List.forall_mem_cons.mpr ⟨ckO_302, List.forall_mem_cons.mpr ⟨ckO_305, fun _ h => by cases h⟩⟩⟩⟩⟩⟩⟩⟩⟩⟩⟩⟩⟩⟩⟩⟩⟩⟩⟩⟩⟩⟩⟩⟩⟩⟩⟩⟩⟩⟩⟩⟩⟩⟩⟩⟩⟩⟩⟩⟩⟩⟩⟩⟩⟩⟩⟩⟩⟩⟩
theorem hS_ob {a ci : Nat} (ha : mcl 331 a = some ci) : mOb hS a ci (rdM hS a) := by
  have hl : a < 331 := by
    by_cases q : a < 331
    · exact q
    · have := (mcl_dyn q ha).2.2
      omega
  have hc : (clL[a]?).getD none = some ci := by unfold mcl at ha; rwa [if_pos hl] at ha
  have h1 := List.all_eq_true.mp ob_mem a (List.mem_range.mpr hl)
  rw [hc] at h1
  have h2 : obL.contains (a, ci) = true := h1
  have h3 : (a, ci) ∈ obL := by simpa using h2
  exact ckO_ok (ob_ok (a, ci) h3)
def ckZ (o : Option gOb) (n : Nat) : Bool := match o with
  | some (.inr (.inl (_, _, f))) => (List.range n).all (fun i => f (i : Int) == 0)
  | _ => false
theorem ckZ_ok {o : Option gOb} {n t m : Nat} {g : Int → Int} (h : ckZ o n = true) (e : o = some (oA t m g)) : ∀ i : Int, 0 ≤ i → i < n → g i = 0 := fun i i0 i1 => by
  subst e
  have h : (List.range n).all (fun i => g (i : Int) == 0) = true := h
  have h1 := List.all_eq_true.mp h i.toNat (List.mem_range.mpr (by omega))
  have h2 : g ((i.toNat : Nat) : Int) = 0 := by simpa using h1
  rwa [show ((i.toNat : Nat) : Int) = i by omega] at h2
theorem hS_t0 : ckZ (hS.2 (0 + 1)) 1000 = true := by decide +kernel
theorem hS_t5 : ckZ (hS.2 (305 + 1)) 1000 = true := by decide +kernel
def ckL (o : Option gOb) : Bool := match o with
  | some (.inr (.inl (t, n, f))) => (t == 2 && n == 1) && f 0 == 0
  | _ => false
theorem hS_l : ckL (hS.2 330) = true := by decide +kernel
def ckW (V : Mem) : Bool := decide (V 0 1 0 = 0) && decide (V 0 2 0 = 2) && decide (V 0 3 0 = 43) && decide (V 0 14 0 = 0) && decide (V 0 15 0 = 0) && decide (V 2 0 0 = 0) && decide (V 2 1 0 = 0) && decide (V 2 2 0 = 0) && decide (V 2 3 0 = 0) && decide (V 2 4 0 = 0) && decide (V 2 6 0 = 0) && decide (V 2 10 0 = 0) && decide (V 2 13 0 = 0) && decide (V 84 9 0 = 0) && decide (V 85 3 0 = 0) && decide (V 85 7 0 = 0) && decide (V 99 2 0 = 0) && decide (V 99 3 0 = 0) && decide (V 99 4 0 = 0) && decide (V 279 3 0 = 0) && decide (V 305 1 0 = 0) && decide (V 305 2 0 = -1) && decide (V 305 3 0 = -1) && decide (V 305 6 0 = 0) && decide (V 305 14 0 = 0)
theorem ckW_ok {V : Mem} (h : ckW V = true) : V 0 1 0 = 0 ∧ V 0 2 0 = 2 ∧ V 0 3 0 = 43 ∧ V 0 14 0 = 0 ∧ V 0 15 0 = 0 ∧ V 2 0 0 = 0 ∧ V 2 1 0 = 0 ∧ V 2 2 0 = 0 ∧ V 2 3 0 = 0 ∧ V 2 4 0 = 0 ∧ V 2 6 0 = 0 ∧ V 2 10 0 = 0 ∧ V 2 13 0 = 0 ∧ V 84 9 0 = 0 ∧ V 85 3 0 = 0 ∧ V 85 7 0 = 0 ∧ V 99 2 0 = 0 ∧ V 99 3 0 = 0 ∧ V 99 4 0 = 0 ∧ V 279 3 0 = 0 ∧ V 305 1 0 = 0 ∧ V 305 2 0 = -1 ∧ V 305 3 0 = -1 ∧ V 305 6 0 = 0 ∧ V 305 14 0 = 0 := by
  unfold ckW at h
  simp only [Bool.and_eq_true, decide_eq_true_eq, and_assoc] at h
  exact h
theorem hS_v : ckW (rdM hS) = true := by decide +kernel
theorem rdM_no {h : gH} {a k : Nat} {i : Int} {y : (Nat × Nat × (Int → Int)) ⊕ (Nat × Nat × (Int → Option Nat))} (e : h.2 a = some (.inr y)) : rdM h a k i = 0 := by
  unfold rdM
  rw [e]
theorem ckL_ok {h : gH} (hc : ckL (h.2 330) = true) : m330 h (rdM h) := by
  cases e : h.2 330 with
  | none => rw [e] at hc; cases hc
  | some o =>
    rw [e] at hc
    rcases o with x | ⟨t, n, f⟩ | x
    · cases hc
    · have hc : ((t == 2 && n == 1) && f 0 == 0) = true := hc
      obtain ⟨h1, h2⟩ := Bool.and_eq_true_iff.mp hc
      obtain ⟨u1, u2⟩ := Bool.and_eq_true_iff.mp h1
      have u1 : t = 2 := by simpa using u1
      have u2 : n = 1 := by simpa using u2
      have u3 : f 0 = 0 := by simpa using h2
      subst u1
      subst u2
      exact ⟨f, e, by rw [rdM_no e]; exact u3⟩
    · cases hc
theorem RC_of {c : cT} {V : Mem} (hc : c.1 = 331) (hw : ckW V = true) (t0 : ∀ i : Int, 0 ≤ i → i < 1000 → V 0 0 i = 0) (t5 : ∀ i : Int, 0 ≤ i → i < 1000 → V 305 5 i = 0) : RC c V := by
  obtain ⟨v0_1, v0_2, v0_3, v0_14, v0_15, v2_0, v2_1, v2_2, v2_3, v2_4, v2_6, v2_10, v2_13, v84_9, v85_3, v85_7, v99_2, v99_3, v99_4, v279_3, v305_1, v305_2, v305_3, v305_6, v305_14⟩ := ckW_ok hw
  refine ⟨by omega, by omega, 2, ⟨Or.inl rfl, v0_2, v0_3⟩, ⟨⟨by omega, by omega⟩, by omega, fun i i0 i1 => ?_, by omega⟩, ⟨by omega, ?_⟩, Or.inl ⟨v305_3, ⟨v2_0, v2_1, v2_2, v2_3, v2_4, v2_6, v2_10, v2_13⟩, v85_3, v85_7, by omega, v99_3, v99_4, v279_3, Or.inl v0_14⟩⟩
  · rw [t0 i i0 i1, t5 i i0 i1]
    exact ⟨rfl, by decide, by decide⟩
  · rw [v305_1, v305_2, if_neg (by decide)]
theorem hS_330 : m330 hS (rdM hS) := ckL_ok hS_l
theorem mH_st : mH hS.1 (rdM hS) hS := ⟨rfl, fun a ci ha => hS_ob (by rw [hS_1] at ha; exact ha), hS_330⟩
theorem tape_z {h : gH} {c : cT} {a ci k off N : Nat} (H : mH c (rdM h) h) (hc : mcl c.1 a = some ci) (hk : (tab ci)[k]? = some (1 + 2, off, N)) (hz : ckZ (h.2 (a + off)) N = true) : ∀ i : Int, 0 ≤ i → i < N → rdM h a k i = 0 := fun i i0 i1 => by
  obtain ⟨g, g1, g2⟩ := mH_arr H hc hk (by decide)
  rw [← g2 i i0 i1]
  exact ckZ_ok hz g1 i i0 i1
theorem RC_st : RC hS.1 (rdM hS) := RC_of hS_1 hS_v (tape_z mH_st k_0 (k := 0) (off := 1) (N := 1000) rfl hS_t0) (tape_z mH_st k_305 (k := 5) (off := 1) (N := 1000) rfl hS_t5)
