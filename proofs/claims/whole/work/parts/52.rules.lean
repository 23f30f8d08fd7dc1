/-! RULES: expressions that change nothing; statements on an object with its own arrays -/
theorem ev_pure {α : Type} {e : gLo → gH → Option (α × gH)} {L : gLo} {h : gH} {x : α} {Q : α → gH → Prop} (he : e L h = some (x, h)) (q : Q x h) : ev e L h Q := ⟨x, h, he, q⟩
section QR
variable {L : gLo} {h : gH} {x y z : Int}
theorem q_kI : kI z L h = some (z, h) := rfl
theorem q_kB {b : Bool} : kB b L h = some (b, h) := rfl
theorem q_lI {i : Nat} (hz : L[i]? = some (some (vI z))) : lI i L h = some (z, h) := by simp only [lI, hz]
theorem q_lL {i : Nat} (hz : L[i]? = some (some (vL z))) : lL i L h = some (z, h) := by simp only [lL, hz]
theorem q_lR {i : Nat} {r : Option Nat} (hz : L[i]? = some (some (vR r))) : lR i L h = some (r, h) := by simp only [lR, hz]
theorem q_o1 {f : Int → Int} {a : gIE} (ha : a L h = some (x, h)) : o1 f a L h = some (f x, h) := by simp only [o1, ha, Option.bind_some]
theorem q_o2 {f : Int → Int → Int} {a b : gIE} (ha : a L h = some (x, h)) (hb : b L h = some (y, h)) : o2 f a b L h = some (f x y, h) := by simp only [o2, ha, hb, Option.bind_some]
theorem q_o2p {f : Int → Int → Int} {a b : gIE} (ha : a L h = some (x, h)) (hb : b L h = some (y, h)) (h0 : ¬ y = 0) : o2p f a b L h = some (f x y, h) := by simp only [o2p, ha, hb, Option.bind_some, if_neg h0]
theorem q_cm {op : ClassFile.Cond} {a b : gIE} (ha : a L h = some (x, h)) (hb : b L h = some (y, h)) : cmC op a b L h = some (cmB op x y, h) := by simp only [cmC, ha, hb, Option.bind_some]
theorem q_cz {op : ClassFile.Cond} {a : gIE} (ha : a L h = some (x, h)) : czC op a L h = some (cmB op x 0, h) := by simp only [czC, ha, Option.bind_some]
theorem q_not {c : gCE} {b : Bool} (hc : c L h = some (b, h)) : notC c L h = some (!b, h) := by simp only [notC, hc, Option.bind_some]
theorem q_and {c d : gCE} {b1 b2 : Bool} (hc : c L h = some (b1, h)) (hd : b1 = true → d L h = some (b2, h)) : andC c d L h = some (b1 && b2, h) := by
  cases b1 with
  | false => simp [andC, hc]
  | true => simp [andC, hc, hd rfl]
theorem q_or {c d : gCE} {b1 b2 : Bool} (hc : c L h = some (b1, h)) (hd : b1 = false → d L h = some (b2, h)) : orC c d L h = some (b1 || b2, h) := by
  cases b1 with
  | true => simp [orC, hc]
  | false => simp [orC, hc, hd rfl]
theorem q_ite {α : Type} {c : gCE} {a b : gLo → gH → Option (α × gH)} {t : Bool} {u v : α} (hc : c L h = some (t, h)) (ha : t = true → a L h = some (u, h)) (hb : t = false → b L h = some (v, h)) : gIte c a b L h = some (if t = true then u else v, h) := by
  cases t with
  | true => simp [gIte, hc, ha rfl]
  | false => simp [gIte, hc, hb rfl]
variable {a ci : Nat} {T : oT} {V : oV} {o : gRE}
theorem q_fI (H : OR h a ci T V) {k p N : Nat} (ho : o L h = some (some a, h)) (hk : T[k]? = some (0, p, N)) : fI ci k o L h = some (V k 0, h) := by simp only [fI, ho, Option.bind_some, OR_fld H hk]
theorem q_fL (H : OR h a ci T V) {k p N : Nat} (ho : o L h = some (some a, h)) (hk : T[k]? = some (1, p, N)) : fL ci k o L h = some (V k 0, h) := by simp only [fL, ho, Option.bind_some, OR_fldL H hk]
theorem q_fA (H : OR h a ci T V) {k ty p N : Nat} (ho : o L h = some (some a, h)) (hty : ty ≠ 7) (hk : T[k]? = some (ty + 2, p, N)) : fR ci k o L h = some (some (a + p), h) := by simp only [fR, ho, Option.bind_some, (OR_arr H hty hk).1]
theorem q_aI (H : OR h a ci T V) {k ty p N : Nat} {i : gIE} (ho : o L h = some (some a, h)) (hty : ty ≠ 7) (hk : T[k]? = some (ty + 2, p, N)) (hi : i L h = some (x, h)) (h0 : 0 ≤ x) (hx : x < N) : aI ty (fR ci k o) i L h = some (V k x, h) := by simp only [aI, q_fA H ho hty hk, hi, Option.bind_some, OR_el H hty hk h0 hx]
variable {n : Nat} {Q : gEx → gLo → gH → Prop}
theorem w_pfI (hw : oWf T = true) (H : OR h a ci T V) {k p N : Nat} {e : gIE} (ho : o L h = some (some a, h)) (he : e L h = some (x, h)) (hk : T[k]? = some (0, p, N)) (kk : ∀ h' : gH, OR h' a ci T (oUp V k 0 x) → h'.1 = h.1 → (∀ j, j ≠ a → h'.2 j = h.2 j) → Q none L h') : wp (pfI ci k o e) n L h Q := by
  obtain ⟨h', e1, e2, e3, e4⟩ := OR_put hw H hk x
  exact ⟨_, _, _, by simp only [pfI, ho, he, Option.bind_some, e1], kk h' e2 e3 e4⟩
theorem w_asI (hw : oWf T = true) (H : OR h a ci T V) {k ty p N : Nat} {i e : gIE} (ho : o L h = some (some a, h)) (hty : ty ≠ 7) (hk : T[k]? = some (ty + 2, p, N)) (hi : i L h = some (x, h)) (h0 : 0 ≤ x) (hx : x < N) (he : e L h = some (y, h)) (hy : gNar ty y = some z) (kk : ∀ h' : gH, OR h' a ci T (oUp V k x z) → h'.1 = h.1 → (∀ j, j ≠ a + p → h'.2 j = h.2 j) → Q none L h') : wp (asI ty (fR ci k o) i e) n L h Q := by
  obtain ⟨h', e1, e2, e3, e4⟩ := OR_es hw H hty hk h0 hx hy
  exact ⟨_, _, _, by simp only [asI, q_fA H ho hty hk, hi, he, Option.bind_some, e1], kk h' e2 e3 e4⟩
end QR
