/-! THE MEANING LEVEL: what a statement comes to -/
def wp (s : gSt) (n : Nat) (L : gLo) (h : gH) (Q : gEx → gLo → gH → Prop) : Prop := ∃ (ex : gEx) (L' : gLo) (h' : gH), s n L h = some (ex, L', h') ∧ Q ex L' h'
/-- what an expression comes to -/
def ev {α : Type} (e : gLo → gH → Option (α × gH)) (L : gLo) (h : gH) (Q : α → gH → Prop) : Prop := ∃ (a : α) (h' : gH), e L h = some (a, h') ∧ Q a h'
section WP
variable {n : Nat} {L : gLo} {h : gH} {Q : gEx → gLo → gH → Prop}
theorem wp_mono {s : gSt} {Q' : gEx → gLo → gH → Prop} (hw : wp s n L h Q') (hq : ∀ ex L' h', Q' ex L' h' → Q ex L' h') : wp s n L h Q := by
  obtain ⟨ex, L', h', e, q⟩ := hw
  exact ⟨ex, L', h', e, hq _ _ _ q⟩
theorem ev_mono {α : Type} {e : gLo → gH → Option (α × gH)} {R R' : α → gH → Prop} (hw : ev e L h R') (hq : ∀ a h', R' a h' → R a h') : ev e L h R := by
  obtain ⟨a, h', e, q⟩ := hw
  exact ⟨a, h', e, hq _ _ q⟩
theorem wp_sk (hq : Q none L h) : wp skS n L h Q := ⟨_, _, _, rfl, hq⟩
theorem wp_br (hq : Q (some (1, none)) L h) : wp brS n L h Q := ⟨_, _, _, rfl, hq⟩
theorem wp_cn (hq : Q (some (2, none)) L h) : wp cnS n L h Q := ⟨_, _, _, rfl, hq⟩
theorem wp_rtV (hq : Q (some (3, none)) L h) : wp rtV n L h Q := ⟨_, _, _, rfl, hq⟩
theorem wp_se {a b : gSt} (hw : wp a n L h (fun ex L' h' => match ex with
    | none => wp b n L' h' Q
    | some e => Q (some e) L' h')) : wp (seS a b) n L h Q := by
  obtain ⟨ex, L', h', e, q⟩ := hw
  cases ex with
  | none =>
    obtain ⟨ex2, L2, h2, e2, q2⟩ := q
    exact ⟨ex2, L2, h2, by simp only [seS, e, Option.bind_some, e2], q2⟩
  | some x => exact ⟨some x, L', h', by simp only [seS, e, Option.bind_some], q⟩
theorem wp_if {c : gCE} {a b : gSt} (hc : ev c L h (fun x h' => if x = true then wp a n L h' Q else wp b n L h' Q)) : wp (ifS c a b) n L h Q := by
  obtain ⟨x, h', e, q⟩ := hc
  cases x with
  | true =>
    obtain ⟨ex2, L2, h2, e2, q2⟩ := (show wp a n L h' Q from q)
    exact ⟨ex2, L2, h2, by simp only [ifS, e, Option.bind_some, if_true, e2], q2⟩
  | false =>
    obtain ⟨ex2, L2, h2, e2, q2⟩ := (show wp b n L h' Q by simpa using q)
    exact ⟨ex2, L2, h2, by simp [ifS, e, e2], q2⟩
theorem wp_stI {i : Nat} {e : gIE} (he : ev e L h (fun x h' => Q none (gSet i (vI x) L) h')) : wp (stI i e) n L h Q := by
  obtain ⟨x, h', e1, q⟩ := he
  exact ⟨_, _, _, by simp only [stI, e1, Option.bind_some], q⟩
theorem wp_stL {i : Nat} {e : gIE} (he : ev e L h (fun x h' => Q none (gSet2 i (vL x) L) h')) : wp (stL i e) n L h Q := by
  obtain ⟨x, h', e1, q⟩ := he
  exact ⟨_, _, _, by simp only [stL, e1, Option.bind_some], q⟩
theorem wp_stR {i : Nat} {e : gRE} (he : ev e L h (fun x h' => Q none (gSet i (vR x) L) h')) : wp (stR i e) n L h Q := by
  obtain ⟨x, h', e1, q⟩ := he
  exact ⟨_, _, _, by simp only [stR, e1, Option.bind_some], q⟩
theorem wp_in {i : Nat} {k z : Int} (hz : L[i]? = some (some (vI z))) (hq : Q none (gSet i (vI (zAdd z k)) L) h) : wp (inS i k) n L h Q := ⟨_, _, _, by simp only [inS, hz], hq⟩
theorem wp_rtI {e : gIE} (he : ev e L h (fun x h' => Q (some (3, some (vI x))) L h')) : wp (rtI e) n L h Q := by
  obtain ⟨x, h', e1, q⟩ := he
  exact ⟨_, _, _, by simp only [rtI, e1, Option.bind_some], q⟩
theorem wp_rtL {e : gIE} (he : ev e L h (fun x h' => Q (some (3, some (vL x))) L h')) : wp (rtL e) n L h Q := by
  obtain ⟨x, h', e1, q⟩ := he
  exact ⟨_, _, _, by simp only [rtL, e1, Option.bind_some], q⟩
theorem wp_rtR {e : gRE} (he : ev e L h (fun x h' => Q (some (3, some (vR x))) L h')) : wp (rtR e) n L h Q := by
  obtain ⟨x, h', e1, q⟩ := he
  exact ⟨_, _, _, by simp only [rtR, e1, Option.bind_some], q⟩
theorem wp_rtB {e : gCE} (he : ev e L h (fun x h' => Q (some (3, some (vB x))) L h')) : wp (rtB e) n L h Q := by
  obtain ⟨x, h', e1, q⟩ := he
  exact ⟨_, _, _, by simp only [rtB, e1, Option.bind_some], q⟩
theorem wp_dp {α : Type} {e : gLo → gH → Option (α × gH)} (he : ev e L h (fun _ h' => Q none L h')) : wp (dpI e) n L h Q := by
  obtain ⟨x, h', e1, q⟩ := he
  exact ⟨_, _, _, by simp only [dpI, e1, Option.bind_some], q⟩
/-- a loop: N rounds of fuel for what is within, a measure that falls -/
theorem wp_wh {c : gCE} {b st : gSt} (N : Nat) (Inv : Nat → gLo → gH → Prop)
    (hstep : ∀ (m k : Nat) (L : gLo) (h : gH), N ≤ k → Inv m L h → ev c L h (fun x h1 => if x = true then wp b k L h1 (fun ex L2 h2 => match ex with
      | none => wp st k L2 h2 (fun ex3 L3 h3 => ex3 = none ∧ ∃ m' : Nat, m' < m ∧ Inv m' L3 h3)
      | some (2, _) => wp st k L2 h2 (fun ex3 L3 h3 => ex3 = none ∧ ∃ m' : Nat, m' < m ∧ Inv m' L3 h3)
      | some (1, _) => Q none L2 h2
      | some e => Q (some e) L2 h2) else Q none L h1)) :
    ∀ (m n : Nat) (L : gLo) (h : gH), N + m < n → Inv m L h → wp (whS c b st) n L h Q := by
  intro m
  induction m using Nat.strongRecOn with
  | ind m ih =>
    intro n L h hn hI
    match n, hn with
    | n + 1, hn =>
      obtain ⟨x, h1, e1, q⟩ := hstep m n L h (by omega) hI
      cases x with
      | false => exact ⟨none, L, h1, by simp [whS, e1], by simpa using q⟩
      | true =>
        obtain ⟨ex, L2, h2, e2, q2⟩ := (show wp b n L h1 _ from q)
        have again : ∀ (ex0 : gEx), (∀ z, (b n L h1 = some (ex0, L2, h2) → (st n L2 h2).bind (fun z => match z.1 with
            | none => whS c b st n z.2.1 z.2.2
            | some _ => none) = some z → whS c b st (n + 1) L h = some z)) → b n L h1 = some (ex0, L2, h2) → wp st n L2 h2 (fun ex3 L3 h3 => ex3 = none ∧ ∃ m' : Nat, m' < m ∧ Inv m' L3 h3) → wp (whS c b st) (n + 1) L h Q := by
          intro ex0 hgo hb hst
          obtain ⟨ex3, L3, h3, e3, rfl, m', hm', hI'⟩ := hst
          obtain ⟨ex4, L4, h4, e4, q4⟩ := ih m' hm' n L3 h3 (by omega) hI'
          exact ⟨ex4, L4, h4, hgo _ hb (by simp only [e3, Option.bind_some, e4]), q4⟩
        match ex, e2, q2 with
        | none, e2, q2 => exact again none (fun z hb hz => by simp only [whS, e1, Option.bind_some, if_true, hb]; exact hz) e2 q2
        | some (0, v), e2, q2 => exact ⟨_, _, _, by simp only [whS, e1, Option.bind_some, if_true, e2], q2⟩
        | some (1, v), e2, q2 => exact ⟨_, _, _, by simp only [whS, e1, Option.bind_some, if_true, e2], q2⟩
        | some (2, v), e2, q2 => exact again (some (2, v)) (fun z hb hz => by simp only [whS, e1, Option.bind_some, if_true, hb]; exact hz) e2 q2
        | some (k + 3, v), e2, q2 => exact ⟨_, _, _, by simp only [whS, e1, Option.bind_some, if_true, e2], q2⟩
end WP
/-- a method's call, by its body -/
theorem gOr_of {n d m : Nat} {mi : gMi} {b : gOrc → gSt} {as : List gAV} {h : gH} {P : Option gAV → gH → Prop} (h1 : gMt[m]? = some mi) (h2 : ∀ C, (gBods C)[m]? = some (b C)) (h3 : m ≠ 305) (h4 : m ≠ 306) (hrc : gRcb mi.2.2.2.2 as h = true) (hl : (gLay as).length ≤ mi.2.2.1)
    (hw : wp (b (gOr n d)) n (gEnt mi.2.2.1 as) h (fun ex _ h' => ∃ v, ex = some (3, v) ∧ gRtB mi.2.2.2.1 v = true ∧ gLe h h' ∧ P v h')) : ∃ (r : Option gAV) (h' : gH), gOr n (d + 1) m as h = some (r, h') ∧ P r h' := by
  obtain ⟨ex, L', h', e, v, rfl, hv, hle, hP⟩ := hw
  refine ⟨v, h', ?_, hP⟩
  rw [gOr_eq h1 h2 h3 h4, if_pos hrc, gRn, if_pos hl, e]
  exact if_pos ⟨hv, hle⟩
