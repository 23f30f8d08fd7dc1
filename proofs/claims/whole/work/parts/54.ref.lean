/-! THE REFERENCE, method by method -/
/-- the model's own fields and arrays -/
def T13 : oT := [(0, 0, 0), (0, 0, 0), (0, 0, 0), (9, 0, 0), (9, 0, 0), (3, 1, 1000), (0, 0, 0), (0, 0, 0), (0, 0, 0), (0, 0, 0), (0, 0, 0), (0, 0, 0), (0, 0, 0), (0, 0, 0), (0, 0, 0), (0, 0, 0), (2, 2, 8), (1, 0, 0), (2, 3, 59), (2, 4, 944), (2, 5, 177), (0, 0, 0), (0, 0, 0), (2, 6, 100), (2, 7, 100), (2, 8, 100), (2, 9, 100), (2, 10, 100), (2, 11, 7), (2, 12, 7), (2, 13, 7), (2, 14, 8), (2, 15, 240), (2, 16, 210), (2, 17, 210), (0, 0, 0), (0, 0, 0), (0, 0, 0), (0, 0, 0), (0, 0, 0), (0, 0, 0), (2, 18, 7), (0, 0, 0), (0, 0, 0), (0, 0, 0), (2, 19, 7), (2, 20, 7), (2, 21, 7), (2, 22, 7), (0, 0, 0), (4, 23, 8), (4, 24, 8)]
theorem T13_wf : oWf T13 = true := by decide +kernel
/-- whether an object is of a table's shape -/
def oChk (h : gH) (a ci : Nat) (T : oT) : Bool := match h.2 a with
  | some (.inl (c, fs)) => c == ci && fs.length == T.length && (List.range T.length).all (fun k => match T[k]?, fs[k]? with
    | some (0, _, _), some (.inl _) => true
    | some (1, _, _), some (.inr (.inl _)) => true
    | some (9, _, _), _ => true
    | some (ty + 2, off, N), some (.inr (.inr (.inl (some r)))) => r == a + off && (match h.2 r with
      | some (.inr (.inl (t, n, _))) => t == ty && n == N
      | _ => false)
    | _, _ => false)
  | _ => false
theorem b3_T13 : b3.map (fun x => oChk x.2 305 13 T13) = some true := by decide +kernel
set_option maxRecDepth 20000 in
theorem gb_172 (C : gOrc) : (gBods C)[172]? = some (bX13_refused C) := rfl
theorem r_refused {n d : Nat} {h : gH} {T : oT} {V : oV} (hw : oWf T = true) (t1 : T[1]? = some (0, 0, 0)) (t2 : T[2]? = some (0, 0, 0)) (H : OR h 305 13 T V) (w : Int) : ∃ (r : Option gAV) (h' : gH), gOr n (d + 1) 172 [vR (some 305), vI w] h = some (r, h') ∧ r = some (vI (-1)) ∧ OR h' 305 13 T (oUp (oUp V 1 0 w) 2 0 (-1)) ∧ h'.1 = h.1 ∧ ∀ j, j ≠ 305 → h'.2 j = h.2 j := by
  have hrc : gRcb (some 13) [vR (some 305), vI w] h = true := by
    obtain ⟨fs, h1, -⟩ := H
    simp [gRcb, h1]
  refine gOr_of mt_172 gb_172 (by decide) (by decide) hrc (Nat.le_refl 2) ?_
  refine wp_se (w_pfI hw H (q_lR rfl) (q_lI rfl) t1 fun h1 H1 e1 f1 => ?_)
  refine wp_se (w_pfI hw H1 (q_lR rfl) q_kI t2 fun h2 H2 e2 f2 => ?_)
  refine wp_rtI (ev_pure q_kI ?_)
  exact ⟨_, rfl, rfl, gLe.of (e2.trans e1), rfl, H2, e2.trans e1, fun j hj => (f2 j hj).trans (f1 j hj)⟩
theorem ev_cI {C : gOrc} {m : Nat} {as : gAE} {L : gLo} {h : gH} {vs : List gAV} {P : Int → gH → Prop} (ha : as L h = some (vs, h)) (hc : ∃ (r : Option gAV) (h' : gH), C m vs h = some (r, h') ∧ ∃ z, r = some (vI z) ∧ P z h') : ev (cI C m as) L h P := by
  obtain ⟨r, h', e, z, rfl, q⟩ := hc
  exact ⟨z, h', by simp only [cI, ha, Option.bind_some, e], q⟩
set_option maxRecDepth 20000 in
theorem gb_174 (C : gOrc) : (gBods C)[174]? = some (bX13_good C) := rfl
theorem r_good {n d : Nat} {h : gH} {V : oV} (H : OR h 305 13 T13 V) (w : Int) : ∃ (r : Option gAV) (h' : gH), gOr n (d + 1) 174 [vR (some 305), vI w] h = some (r, h') ∧ r = some (vI w) ∧ OR h' 305 13 T13 (oUp (oUp V 1 0 0) 2 0 (-1)) ∧ h'.1 = h.1 ∧ ∀ j, j ≠ 305 → h'.2 j = h.2 j := by
  have hrc : gRcb (some 13) [vR (some 305), vI w] h = true := by
    obtain ⟨fs, h1, -⟩ := H
    simp [gRcb, h1]
  refine gOr_of mt_174 gb_174 (by decide) (by decide) hrc (Nat.le_refl 2) ?_
  refine wp_se (w_pfI T13_wf H (q_lR rfl) q_kI rfl fun h1 H1 e1 f1 => ?_)
  refine wp_se (w_pfI T13_wf H1 (q_lR rfl) q_kI rfl fun h2 H2 e2 f2 => ?_)
  refine wp_rtI (ev_pure (q_lI rfl) ?_)
  exact ⟨_, rfl, rfl, gLe.of (e2.trans e1), rfl, H2, e2.trans e1, fun j hj => (f2 j hj).trans (f1 j hj)⟩
