/-! kinds and habits don't hang on what a run writes -/
theorem kindF_sM {V : Mem} {k : Nat} {f : Int → Int} {p : Int} (h1 : (40 : Nat) ≠ k) (h2 : (18 : Nat) ≠ k) : kindF (sM V 305 k f 305) p = kindF (V 305) p := by
  unfold kindF
  rw [sM_k h1, sM_k h2]
theorem habitF_sM {V : Mem} {k : Nat} {f : Int → Int} {p : Int} (h1 : (39 : Nat) ≠ k) (h2 : (18 : Nat) ≠ k) : habitF (sM V 305 k f 305) p = habitF (V 305) p := by
  unfold habitF
  rw [sM_k h1, sM_k h2]
theorem kindF_fr {S T : oV} {p : Int} (h : Fr S T) : kindF T p = kindF S p := by
  unfold kindF
  rw [h 40 (by omega), h 18 (by omega)]
theorem habitF_fr {S T : oV} {p : Int} (h : Fr S T) : habitF T p = habitF S p := by
  unfold habitF
  rw [h 39 (by omega), h 18 (by omega)]
