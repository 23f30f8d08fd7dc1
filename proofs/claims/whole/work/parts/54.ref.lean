/-! THE REFERENCE, method by method -/
set_option maxRecDepth 20000 in
theorem gb_172 (C : gOrc) : (gBods C)[172]? = some (bX13_refused C) := rfl
theorem r_refused {n d : Nat} {h : gH} {T : oT} {V : oV} (hw : oWf T = true) (t1 : T[1]? = some (0, 0, 0)) (t2 : T[2]? = some (0, 0, 0)) (H : OR h 305 13 T V) (w : Int) : ∃ (r : Option gAV) (h' : gH), gOr n (d + 1) 172 [vR (some 305), vI w] h = some (r, h') ∧ r = some (vI (-1)) ∧ OR h' 305 13 T (oUp (oUp V 1 0 w) 2 0 (-1)) ∧ h'.1 = h.1 ∧ ∀ j, j ≠ 305 → h'.2 j = h.2 j := by
  have hrc : gRcb (some 13) [vR (some 305), vI w] h = true := by
    obtain ⟨fs, h1, -⟩ := H
    simp [gRcb, h1]
  refine gOr_of mt_172 gb_172 (by decide) (by decide) hrc (Nat.le_refl 2) ?_
  refine wp_se (w_pfI hw H (q_lR rfl) (q_lI rfl) t1 fun h1 H1 e1 f1 => ?_)
  refine wp_se (w_pfI hw H1 (q_lR rfl) q_kI t2 fun h2 H2 e2 f2 => ?_)
  refine wp_rtI (ev_pure q_kI ?_)
  exact ⟨_, rfl, rfl, gLe.of (e2.trans e1), rfl, H2, e2.trans e1, fun j hj => (f2 j hj).trans (f1 j hj)⟩
