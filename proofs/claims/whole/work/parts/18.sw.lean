/-! the cases of a switch, one by one -/
theorem gTcs_nil {k : gK} {C : gOrc} {pN pC : Nat} : gTcs k C pN pC [] [] := trivial
theorem gTcs_cons {k : gK} {C : gOrc} {pN pC t : Nat} {s : gSt} {ts : List Nat} {ss : List gSt} (h : gT k C t pN pN pC s) (r : gTcs k C pN pC ts ss) : gTcs k C pN pC (t :: ts) (s :: ss) := ⟨h, r⟩
