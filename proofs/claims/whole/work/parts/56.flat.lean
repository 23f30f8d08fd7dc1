/-! RULES OVER THE FLAT MEMORY. PE: an expression has this value, the memory stays; EE: it comes to what Q says; WW: a statement does; PC, CC: a call, likewise -/
def nB : Nat := 1000000000
def PE {α : Type} (e : gLo → gH → Option (α × gH)) (L : gLo) (c : cT) (V : Mem) (x : α) : Prop := ∀ h, mH c V h → ∃ h', e L h = some (x, h') ∧ mH c V h'
def EE {α : Type} (e : gLo → gH → Option (α × gH)) (L : gLo) (c : cT) (V : Mem) (Q : α → cT → Mem → Prop) : Prop := ∀ h, mH c V h → ∃ (x : α) (h' : gH) (c' : cT) (V' : Mem), e L h = some (x, h') ∧ mH c' V' h' ∧ gLe h h' ∧ Q x c' V'
def WW (s : gSt) (n : Nat) (L : gLo) (c : cT) (V : Mem) (Q : gEx → gLo → cT → Mem → Prop) : Prop := ∀ h, mH c V h → ∃ (ex : gEx) (L' : gLo) (h' : gH) (c' : cT) (V' : Mem), s n L h = some (ex, L', h') ∧ mH c' V' h' ∧ gLe h h' ∧ Q ex L' c' V'
def PC (D m : Nat) (as : List gAV) (c : cT) (V : Mem) (r : Option gAV) : Prop := ∀ n d h, nB ≤ n → D ≤ d → mH c V h → ∃ h', gOr n d m as h = some (r, h') ∧ mH c V h'
def CC (D m : Nat) (as : List gAV) (c : cT) (V : Mem) (Q : Option gAV → cT → Mem → Prop) : Prop := ∀ n d h, nB ≤ n → D ≤ d → mH c V h → ∃ (r : Option gAV) (h' : gH) (c' : cT) (V' : Mem), gOr n d m as h = some (r, h') ∧ mH c' V' h' ∧ gLe h h' ∧ Q r c' V'
section PER
variable {L : gLo} {c : cT} {V : Mem} {x y z : Int} {n d : Nat}
theorem PE_kI : PE (kI z) L c V z := fun h H => ⟨h, rfl, H⟩
theorem PE_kB {b : Bool} : PE (kB b) L c V b := fun h H => ⟨h, rfl, H⟩
theorem PE_kS {i : Nat} : PE (kS i) L c V i := fun h H => ⟨h, rfl, H⟩
theorem PE_lI {i : Nat} (hz : L[i]? = some (some (vI z))) : PE (lI i) L c V z := fun h H => ⟨h, by simp only [lI, hz], H⟩
theorem PE_lL {i : Nat} (hz : L[i]? = some (some (vL z))) : PE (lL i) L c V z := fun h H => ⟨h, by simp only [lL, hz], H⟩
theorem PE_lR {i : Nat} {r : Option Nat} (hz : L[i]? = some (some (vR r))) : PE (lR i) L c V r := fun h H => ⟨h, by simp only [lR, hz], H⟩
theorem PE_lS {i j : Nat} (hz : L[i]? = some (some (vS j))) : PE (lS i) L c V j := fun h H => ⟨h, by simp only [lS, hz], H⟩
theorem zB_vB {b : Bool} : zB (if b = true then 1 else 0) = some b := by cases b <;> rfl
theorem PE_lB {i : Nat} {b : Bool} (hz : L[i]? = some (some (vB b))) : PE (lB i) L c V b := fun h H => ⟨h, by simp only [lB, lI, hz, Option.bind_some, zB_vB], H⟩
theorem PE_o1 {f : Int → Int} {a : gIE} (ha : PE a L c V x) : PE (o1 f a) L c V (f x) := fun h H => by
  obtain ⟨h1, e1, H1⟩ := ha h H
  exact ⟨h1, by simp only [o1, e1, Option.bind_some], H1⟩
theorem PE_o2 {f : Int → Int → Int} {a b : gIE} (ha : PE a L c V x) (hb : PE b L c V y) : PE (o2 f a b) L c V (f x y) := fun h H => by
  obtain ⟨h1, e1, H1⟩ := ha h H
  obtain ⟨h2, e2, H2⟩ := hb h1 H1
  exact ⟨h2, by simp only [o2, e1, e2, Option.bind_some], H2⟩
theorem PE_o2p {f : Int → Int → Int} {a b : gIE} (ha : PE a L c V x) (hb : PE b L c V y) (h0 : y ≠ 0) : PE (o2p f a b) L c V (f x y) := fun h H => by
  obtain ⟨h1, e1, H1⟩ := ha h H
  obtain ⟨h2, e2, H2⟩ := hb h1 H1
  exact ⟨h2, by simp only [o2p, e1, e2, Option.bind_some, if_neg h0], H2⟩
variable {a ci k : Nat} {o : gRE}
theorem PE_fI {p N : Nat} (hk : (tab ci)[k]? = some (0, p, N)) (ho : PE o L c V (some a)) (hc : mcl c.1 a = some ci) : PE (fI ci k o) L c V (V a k 0) := fun h H => by
  obtain ⟨h1, e1, H1⟩ := ho h H
  exact ⟨h1, by simp only [fI, e1, Option.bind_some, mH_fld H1 hc hk]; rfl, H1⟩
theorem PE_fL {p N : Nat} (hk : (tab ci)[k]? = some (1, p, N)) (ho : PE o L c V (some a)) (hc : mcl c.1 a = some ci) : PE (fL ci k o) L c V (V a k 0) := fun h H => by
  obtain ⟨h1, e1, H1⟩ := ho h H
  exact ⟨h1, by simp only [fL, e1, Option.bind_some, mH_fld H1 hc hk]; rfl, H1⟩
theorem PE_fB {p N : Nat} (hk : (tab ci)[k]? = some (0, p, N)) (ho : PE o L c V (some a)) (hc : mcl c.1 a = some ci) {b : Bool} (hb : V a k 0 = if b = true then 1 else 0) : PE (fB ci k o) L c V b := fun h H => by
  obtain ⟨h1, e1, H1⟩ := PE_fI hk ho hc h H
  exact ⟨h1, by simp only [fB, e1, Option.bind_some, hb, zB_vB], H1⟩
theorem PE_fP {p N : Nat} (hk : (tab ci)[k]? = some (9, p, N)) (ho : PE o L c V (some a)) (hc : mcl c.1 a = some ci) {g : Nat} (hg : V a k 0 = (g : Int)) : PE (fR ci k o) L c V (some g) := fun h H => by
  obtain ⟨h1, e1, H1⟩ := ho h H
  refine ⟨h1, ?_, H1⟩
  have e2 : mVal a (9, p, N) (V a k) = vR (some g) := by
    show vR (rf (V a k 0)) = vR (some g)
    rw [hg, rf_nat]
  simp only [fR, e1, Option.bind_some, mH_fld H1 hc hk, e2]
theorem PE_fN {p N : Nat} (hk : (tab ci)[k]? = some (9, p, N)) (ho : PE o L c V (some a)) (hc : mcl c.1 a = some ci) : PE (fR ci k o) L c V (rf (V a k 0)) := fun h H => by
  obtain ⟨h1, e1, H1⟩ := ho h H
  refine ⟨h1, ?_, H1⟩
  have e2 : mVal a (9, p, N) (V a k) = vR (rf (V a k 0)) := rfl
  simp only [fR, e1, Option.bind_some, mH_fld H1 hc hk, e2]
theorem PE_fC {p N : Nat} (hk : (tab ci)[k]? = some (10, p, N)) (ho : PE o L c V (some a)) (hc : mcl c.1 a = some ci) : PE (fR ci k o) L c V (some (a + p)) := fun h H => by
  obtain ⟨h1, e1, H1⟩ := ho h H
  have e2 : mVal a (10, p, N) (V a k) = vR (some (a + p)) := rfl
  exact ⟨h1, by simp only [fR, e1, Option.bind_some, mH_fld H1 hc hk, e2], H1⟩
theorem PE_fT {p N : Nat} (hk : (tab ci)[k]? = some (11, p, N)) (ho : PE o L c V (some a)) (hc : mcl c.1 a = some ci) : PE (fR ci k o) L c V (some p) := fun h H => by
  obtain ⟨h1, e1, H1⟩ := ho h H
  have e2 : mVal a (11, p, N) (V a k) = vR (some p) := rfl
  exact ⟨h1, by simp only [fR, e1, Option.bind_some, mH_fld H1 hc hk, e2], H1⟩
theorem PE_fA {ty p N : Nat} (hk : (tab ci)[k]? = some (ty + 2, p, N)) (hty : ty < 4) (ho : PE o L c V (some a)) (hc : mcl c.1 a = some ci) : PE (fR ci k o) L c V (some (a + p)) := fun h H => by
  obtain ⟨h1, e1, H1⟩ := ho h H
  exact ⟨h1, by simp only [fR, e1, Option.bind_some, mH_fld H1 hc hk, mVal_arr hty], H1⟩
theorem PE_aR {ty p N : Nat} {r : gRE} {i : gIE} (hr : PE r L c V (some (a + p))) (hc : mcl c.1 a = some ci) (hk : (tab ci)[k]? = some (ty + 2, p, N)) (hty : ty < 4) (hi : PE i L c V x) (h0 : 0 ≤ x) (hx : x < N) : PE (aI ty r i) L c V (V a k x) := fun h H => by
  obtain ⟨h1, e1, H1⟩ := hr h H
  obtain ⟨h2, e2, H2⟩ := hi h1 H1
  obtain ⟨g, g1, g2⟩ := mH_arr H2 hc hk hty
  refine ⟨h2, ?_, H2⟩
  simp only [aI, e1, e2, Option.bind_some, gEl, g1]
  rw [if_pos ⟨trivial, h0, hx⟩, g2 x h0 hx]
  rfl
theorem PE_aF {ty p N : Nat} {i : gIE} (hk : (tab ci)[k]? = some (ty + 2, p, N)) (hty : ty < 4) (ho : PE o L c V (some a)) (hc : mcl c.1 a = some ci) (hi : PE i L c V x) (h0 : 0 ≤ x) (hx : x < N) : PE (aI ty (fR ci k o) i) L c V (V a k x) := PE_aR (PE_fA hk hty ho hc) hc hk hty hi h0 hx
/-- the reader's text is the tape -/
theorem PE_aT {i : gIE} (ho : PE o L c V (some a)) (hc : mcl c.1 a = some 9) (hi : PE i L c V x) (h0 : 0 ≤ x) (hx : x < 1000) : PE (aI 1 (fR 9 0 o) i) L c V (V 0 0 x) := PE_aR (a := 0) (p := 1) (ci := 11) (N := 1000) (PE_fT rfl ho hc) k_0 rfl (by decide) hi h0 hx
theorem PE_aBo {ty : Nat} {r : gRE} {i : gIE} (h : PE (aI ty r i) L c V x) {b : Bool} (hb : x = if b = true then 1 else 0) : PE (aB ty r i) L c V b := fun h0 H => by
  obtain ⟨h1, e1, H1⟩ := h h0 H
  exact ⟨h1, by simp only [aB, e1, Option.bind_some, hb, zB_vB], H1⟩
theorem PE_q12 {i : gIE} (ho : PE o L c V (some a)) (hc : mcl c.1 a = some 4) (hi : PE i L c V x) (h0 : 0 ≤ x) (hx : x < 7) : PE (aQ 0 (fR 4 5 o) i) L c V (some (a + 13 + 4 * x.toNat)) := fun h H => by
  obtain ⟨h1, e1, H1⟩ := ho h H
  have hk : (tab 4)[5]? = some (12, 1, 7) := rfl
  have e2 : mVal a (12, 1, 7) (V a 5) = vR (some (a + 1)) := rfl
  have e3 := mH_fld H1 hc hk
  rw [e2] at e3
  obtain ⟨h2, e4, H2⟩ := hi h1 H1
  obtain ⟨q, q1, q2⟩ := ((mH_ob H2 hc).choose_spec.2.2 5 _ hk).2 rfl
  refine ⟨h2, ?_, H2⟩
  simp only [aQ, fR, e1, Option.bind_some, e3, e4, gElq, q1]
  rw [if_pos ⟨trivial, h0, hx⟩, q2 x h0 hx]
  rfl
theorem PE_q13 {i : gIE} (ho : PE o L c V (some a)) (hc : mcl c.1 a = some 5) (hi : PE i L c V x) (h0 : 0 ≤ x) (hx : x < 16) : PE (aQ 1 (fR 5 0 o) i) L c V (some (a + 3 + 7 * x.toNat)) := fun h H => by
  obtain ⟨h1, e1, H1⟩ := ho h H
  have hk : (tab 5)[0]? = some (13, 1, 16) := rfl
  have e2 : mVal a (13, 1, 16) (V a 0) = vR (some (a + 1)) := rfl
  have e3 := mH_fld H1 hc hk
  rw [e2] at e3
  obtain ⟨h2, e4, H2⟩ := hi h1 H1
  obtain ⟨q, q1, q2⟩ := ((mH_ob H2 hc).choose_spec.2.2 0 _ hk).2 rfl
  refine ⟨h2, ?_, H2⟩
  simp only [aQ, fR, e1, Option.bind_some, e3, e4, gElq, q1]
  rw [if_pos ⟨trivial, h0, hx⟩, q2 x h0 hx]
  rfl
theorem PE_q14 {i : gIE} (ho : PE o L c V (some a)) (hc : mcl c.1 a = some 5) (hi : PE i L c V x) (h0 : 0 ≤ x) (hx : x < 3) : PE (aQ 1 (fR 5 1 o) i) L c V (some (a + 115 + 7 * x.toNat)) := fun h H => by
  obtain ⟨h1, e1, H1⟩ := ho h H
  have hk : (tab 5)[1]? = some (14, 2, 3) := rfl
  have e2 : mVal a (14, 2, 3) (V a 1) = vR (some (a + 2)) := rfl
  have e3 := mH_fld H1 hc hk
  rw [e2] at e3
  obtain ⟨h2, e4, H2⟩ := hi h1 H1
  obtain ⟨q, q1, q2⟩ := ((mH_ob H2 hc).choose_spec.2.2 1 _ hk).2 rfl
  refine ⟨h2, ?_, H2⟩
  simp only [aQ, fR, e1, Option.bind_some, e3, e4, gElq, q1]
  rw [if_pos ⟨trivial, h0, hx⟩, q2 x h0 hx]
  rfl
theorem PE_aN {r : gRE} {ty p N : Nat} (hr : PE r L c V (some (a + p))) (hc : mcl c.1 a = some ci) (hk : (tab ci)[k]? = some (ty + 2, p, N)) (hty : ty < 4) : PE (aN r) L c V N := fun h H => by
  obtain ⟨h1, e1, H1⟩ := hr h H
  obtain ⟨g, g1, g2⟩ := mH_arr H1 hc hk hty
  exact ⟨h1, by simp only [aN, e1, Option.bind_some, gLen, g1], H1⟩
theorem PE_bI {e : gCE} {b : Bool} (he : PE e L c V b) : PE (bI e) L c V (if b = true then 1 else 0) := fun h H => by
  obtain ⟨h1, e1, H1⟩ := he h H
  exact ⟨h1, by simp only [bI, e1, Option.bind_some], H1⟩
theorem PE_cm {op : ClassFile.Cond} {a b : gIE} (ha : PE a L c V x) (hb : PE b L c V y) : PE (cmC op a b) L c V (cmB op x y) := fun h H => by
  obtain ⟨h1, e1, H1⟩ := ha h H
  obtain ⟨h2, e2, H2⟩ := hb h1 H1
  exact ⟨h2, by simp only [cmC, e1, e2, Option.bind_some], H2⟩
theorem PE_cz {op : ClassFile.Cond} {a : gIE} (ha : PE a L c V x) : PE (czC op a) L c V (cmB op x 0) := fun h H => by
  obtain ⟨h1, e1, H1⟩ := ha h H
  exact ⟨h1, by simp only [czC, e1, Option.bind_some], H1⟩
theorem PE_cn {r : Option Nat} (ho : PE o L c V r) : PE (cnC o) L c V r.isNone := fun h H => by
  obtain ⟨h1, e1, H1⟩ := ho h H
  exact ⟨h1, by simp only [cnC, e1, Option.bind_some], H1⟩
theorem PE_not {e : gCE} {b : Bool} (he : PE e L c V b) : PE (notC e) L c V (!b) := fun h H => by
  obtain ⟨h1, e1, H1⟩ := he h H
  exact ⟨h1, by simp only [notC, e1, Option.bind_some], H1⟩
theorem PE_and {e f : gCE} {b b' : Bool} (he : PE e L c V b) (hf : b = true → PE f L c V b') : PE (andC e f) L c V (b && b') := fun h H => by
  obtain ⟨h1, e1, H1⟩ := he h H
  cases b with
  | false => exact ⟨h1, by simp [andC, e1], H1⟩
  | true =>
    obtain ⟨h2, e2, H2⟩ := hf rfl h1 H1
    exact ⟨h2, by simp [andC, e1, e2], H2⟩
theorem PE_or {e f : gCE} {b b' : Bool} (he : PE e L c V b) (hf : b = false → PE f L c V b') : PE (orC e f) L c V (b || b') := fun h H => by
  obtain ⟨h1, e1, H1⟩ := he h H
  cases b with
  | true => exact ⟨h1, by simp [orC, e1], H1⟩
  | false =>
    obtain ⟨h2, e2, H2⟩ := hf rfl h1 H1
    exact ⟨h2, by simp [orC, e1, e2], H2⟩
theorem PE_ite {α : Type} {e : gCE} {f g : gLo → gH → Option (α × gH)} {b : Bool} {u v : α} (he : PE e L c V b) (hf : b = true → PE f L c V u) (hg : b = false → PE g L c V v) : PE (gIte e f g) L c V (if b = true then u else v) := fun h H => by
  obtain ⟨h1, e1, H1⟩ := he h H
  cases b with
  | true =>
    obtain ⟨h2, e2, H2⟩ := hf rfl h1 H1
    exact ⟨h2, by simp [gIte, e1, e2], H2⟩
  | false =>
    obtain ⟨h2, e2, H2⟩ := hg rfl h1 H1
    exact ⟨h2, by simp [gIte, e1, e2], H2⟩
variable {r : gAE} {vs : List gAV}
theorem PE_a0 : PE a0 L c V [] := fun h H => ⟨h, rfl, H⟩
theorem PE_aCI {e : gIE} (he : PE e L c V x) (hr : PE r L c V vs) : PE (aCI e r) L c V (vI x :: vs) := fun h H => by
  obtain ⟨h1, e1, H1⟩ := he h H
  obtain ⟨h2, e2, H2⟩ := hr h1 H1
  exact ⟨h2, by simp only [aCI, e1, e2, Option.bind_some], H2⟩
theorem PE_aCL {e : gIE} (he : PE e L c V x) (hr : PE r L c V vs) : PE (aCL e r) L c V (vL x :: vs) := fun h H => by
  obtain ⟨h1, e1, H1⟩ := he h H
  obtain ⟨h2, e2, H2⟩ := hr h1 H1
  exact ⟨h2, by simp only [aCL, e1, e2, Option.bind_some], H2⟩
theorem PE_aCR {e : gRE} {p : Option Nat} (he : PE e L c V p) (hr : PE r L c V vs) : PE (aCR e r) L c V (vR p :: vs) := fun h H => by
  obtain ⟨h1, e1, H1⟩ := he h H
  obtain ⟨h2, e2, H2⟩ := hr h1 H1
  exact ⟨h2, by simp only [aCR, e1, e2, Option.bind_some], H2⟩
theorem PE_aCS {e : gSE} {p : Nat} (he : PE e L c V p) (hr : PE r L c V vs) : PE (aCS e r) L c V (vS p :: vs) := fun h H => by
  obtain ⟨h1, e1, H1⟩ := he h H
  obtain ⟨h2, e2, H2⟩ := hr h1 H1
  exact ⟨h2, by simp only [aCS, e1, e2, Option.bind_some], H2⟩
theorem PE_aCB {e : gCE} {p : Bool} (he : PE e L c V p) (hr : PE r L c V vs) : PE (aCB e r) L c V (vB p :: vs) := fun h H => by
  obtain ⟨h1, e1, H1⟩ := he h H
  obtain ⟨h2, e2, H2⟩ := hr h1 H1
  exact ⟨h2, by simp only [aCB, e1, e2, Option.bind_some], H2⟩
variable {D m : Nat}
theorem PE_cI (hr : PE r L c V vs) (hn : nB ≤ n) (hp : PC D m vs c V (some (vI x))) (hd : D ≤ d) : PE (cI (gOr n d) m r) L c V x := fun h H => by
  obtain ⟨h1, e1, H1⟩ := hr h H
  obtain ⟨h2, e2, H2⟩ := hp n d h1 hn hd H1
  exact ⟨h2, by simp only [cI, e1, Option.bind_some, e2], H2⟩
theorem PE_cL (hr : PE r L c V vs) (hn : nB ≤ n) (hp : PC D m vs c V (some (vL x))) (hd : D ≤ d) : PE (cL (gOr n d) m r) L c V x := fun h H => by
  obtain ⟨h1, e1, H1⟩ := hr h H
  obtain ⟨h2, e2, H2⟩ := hp n d h1 hn hd H1
  exact ⟨h2, by simp only [cL, e1, Option.bind_some, e2], H2⟩
theorem PE_cR {p : Option Nat} (hr : PE r L c V vs) (hn : nB ≤ n) (hp : PC D m vs c V (some (vR p))) (hd : D ≤ d) : PE (cR (gOr n d) m r) L c V p := fun h H => by
  obtain ⟨h1, e1, H1⟩ := hr h H
  obtain ⟨h2, e2, H2⟩ := hp n d h1 hn hd H1
  exact ⟨h2, by simp only [cR, e1, Option.bind_some, e2], H2⟩
theorem PE_cB {b : Bool} (hr : PE r L c V vs) (hn : nB ≤ n) (hp : PC D m vs c V (some (vB b))) (hd : D ≤ d) : PE (cB (gOr n d) m r) L c V b := fun h H => by
  obtain ⟨h1, e1, H1⟩ := PE_cI hr hn hp hd h H
  exact ⟨h1, by simp only [cB, e1, Option.bind_some, zB_vB], H1⟩
end PER
section EER
variable {L : gLo} {c : cT} {V : Mem} {n d D m : Nat}
theorem EE_pe {α : Type} {e : gLo → gH → Option (α × gH)} {x : α} {Q : α → cT → Mem → Prop} (he : PE e L c V x) (q : Q x c V) : EE e L c V Q := fun h H => by
  obtain ⟨h1, e1, H1⟩ := he h H
  exact ⟨x, h1, c, V, e1, H1, mH_le H H1, q⟩
theorem EE_mono {α : Type} {e : gLo → gH → Option (α × gH)} {Q Q' : α → cT → Mem → Prop} (he : EE e L c V Q') (q : ∀ x c' V', Q' x c' V' → Q x c' V') : EE e L c V Q := fun h H => by
  obtain ⟨x, h1, c1, V1, e1, H1, l1, q1⟩ := he h H
  exact ⟨x, h1, c1, V1, e1, H1, l1, q _ _ _ q1⟩
variable {r : gAE} {vs : List gAV}
theorem EE_cI {Q : Int → cT → Mem → Prop} (hr : PE r L c V vs) (hn : nB ≤ n) (hp : CC D m vs c V (fun r c' V' => ∃ z, r = some (vI z) ∧ Q z c' V')) (hd : D ≤ d) : EE (cI (gOr n d) m r) L c V Q := fun h H => by
  obtain ⟨h1, e1, H1⟩ := hr h H
  obtain ⟨_, h2, c2, V2, e2, H2, l2, z, rfl, q⟩ := hp n d h1 hn hd H1
  exact ⟨z, h2, c2, V2, by simp only [cI, e1, Option.bind_some, e2], H2, (mH_le H H1).tr l2, q⟩
theorem EE_cL {Q : Int → cT → Mem → Prop} (hr : PE r L c V vs) (hn : nB ≤ n) (hp : CC D m vs c V (fun r c' V' => ∃ z, r = some (vL z) ∧ Q z c' V')) (hd : D ≤ d) : EE (cL (gOr n d) m r) L c V Q := fun h H => by
  obtain ⟨h1, e1, H1⟩ := hr h H
  obtain ⟨_, h2, c2, V2, e2, H2, l2, z, rfl, q⟩ := hp n d h1 hn hd H1
  exact ⟨z, h2, c2, V2, by simp only [cL, e1, Option.bind_some, e2], H2, (mH_le H H1).tr l2, q⟩
theorem EE_cR {Q : Option Nat → cT → Mem → Prop} (hr : PE r L c V vs) (hn : nB ≤ n) (hp : CC D m vs c V (fun r c' V' => ∃ z, r = some (vR z) ∧ Q z c' V')) (hd : D ≤ d) : EE (cR (gOr n d) m r) L c V Q := fun h H => by
  obtain ⟨h1, e1, H1⟩ := hr h H
  obtain ⟨_, h2, c2, V2, e2, H2, l2, z, rfl, q⟩ := hp n d h1 hn hd H1
  exact ⟨z, h2, c2, V2, by simp only [cR, e1, Option.bind_some, e2], H2, (mH_le H H1).tr l2, q⟩
theorem EE_cB {Q : Bool → cT → Mem → Prop} (hr : PE r L c V vs) (hn : nB ≤ n) (hp : CC D m vs c V (fun r c' V' => ∃ b, r = some (vB b) ∧ Q b c' V')) (hd : D ≤ d) : EE (cB (gOr n d) m r) L c V Q := fun h H => by
  obtain ⟨h1, e1, H1⟩ := hr h H
  obtain ⟨_, h2, c2, V2, e2, H2, l2, z, rfl, q⟩ := hp n d h1 hn hd H1
  exact ⟨z, h2, c2, V2, by simp only [cB, cI, e1, Option.bind_some, e2, zB_vB], H2, (mH_le H H1).tr l2, q⟩
theorem ex_I {Q : Int → cT → Mem → Prop} {z : Int} (q : Q z c V) : ∃ x, some (vI z) = some (vI x) ∧ Q x c V := ⟨z, rfl, q⟩
theorem ex_B {Q : Bool → cT → Mem → Prop} {z : Bool} (q : Q z c V) : ∃ x, some (vB z) = some (vB x) ∧ Q x c V := ⟨z, rfl, q⟩
theorem ex_R {Q : Option Nat → cT → Mem → Prop} {z : Option Nat} (q : Q z c V) : ∃ x, some (vR z) = some (vR x) ∧ Q x c V := ⟨z, rfl, q⟩
theorem EE_bI {e : gCE} {Q : Int → cT → Mem → Prop} (he : EE e L c V (fun b c' V' => Q (if b = true then 1 else 0) c' V')) : EE (bI e) L c V Q := fun h H => by
  obtain ⟨x, h1, c1, V1, e1, H1, l1, q⟩ := he h H
  exact ⟨_, h1, c1, V1, by simp only [bI, e1, Option.bind_some], H1, l1, q⟩
theorem EE_not {e : gCE} {Q : Bool → cT → Mem → Prop} (he : EE e L c V (fun b c' V' => Q (!b) c' V')) : EE (notC e) L c V Q := fun h H => by
  obtain ⟨x, h1, c1, V1, e1, H1, l1, q⟩ := he h H
  exact ⟨_, h1, c1, V1, by simp only [notC, e1, Option.bind_some], H1, l1, q⟩
theorem EE_or {e f : gCE} {Q : Bool → cT → Mem → Prop} (he : EE e L c V (fun b c' V' => (b = true → Q true c' V') ∧ (b = false → EE f L c' V' Q))) : EE (orC e f) L c V Q := fun h H => by
  obtain ⟨x, h1, c1, V1, e1, H1, l1, q1, q2⟩ := he h H
  cases x with
  | true => exact ⟨true, h1, c1, V1, by simp [orC, e1], H1, l1, q1 rfl⟩
  | false =>
    obtain ⟨x, h2, c2, V2, e2, H2, l2, q⟩ := q2 rfl h1 H1
    exact ⟨x, h2, c2, V2, by simp [orC, e1, e2], H2, l1.tr l2, q⟩
theorem EE_and {e f : gCE} {Q : Bool → cT → Mem → Prop} (he : EE e L c V (fun b c' V' => (b = false → Q false c' V') ∧ (b = true → EE f L c' V' Q))) : EE (andC e f) L c V Q := fun h H => by
  obtain ⟨x, h1, c1, V1, e1, H1, l1, q1, q2⟩ := he h H
  cases x with
  | false => exact ⟨false, h1, c1, V1, by simp [andC, e1], H1, l1, q1 rfl⟩
  | true =>
    obtain ⟨x, h2, c2, V2, e2, H2, l2, q⟩ := q2 rfl h1 H1
    exact ⟨x, h2, c2, V2, by simp [andC, e1, e2], H2, l1.tr l2, q⟩
theorem EE_ite {α : Type} {e : gCE} {f g : gLo → gH → Option (α × gH)} {Q : α → cT → Mem → Prop} (he : EE e L c V (fun b c' V' => (b = true → EE f L c' V' Q) ∧ (b = false → EE g L c' V' Q))) : EE (gIte e f g) L c V Q := fun h H => by
  obtain ⟨x, h1, c1, V1, e1, H1, l1, q1, q2⟩ := he h H
  cases x with
  | true =>
    obtain ⟨x, h2, c2, V2, e2, H2, l2, q⟩ := q1 rfl h1 H1
    exact ⟨x, h2, c2, V2, by simp [gIte, e1, e2], H2, l1.tr l2, q⟩
  | false =>
    obtain ⟨x, h2, c2, V2, e2, H2, l2, q⟩ := q2 rfl h1 H1
    exact ⟨x, h2, c2, V2, by simp [gIte, e1, e2], H2, l1.tr l2, q⟩
theorem EE_o2 {f : Int → Int → Int} {a b : gIE} {Q : Int → cT → Mem → Prop} (ha : EE a L c V (fun x c1 V1 => EE b L c1 V1 (fun y c2 V2 => Q (f x y) c2 V2))) : EE (o2 f a b) L c V Q := fun h H => by
  obtain ⟨x, h1, c1, V1, e1, H1, l1, q1⟩ := ha h H
  obtain ⟨y, h2, c2, V2, e2, H2, l2, q⟩ := q1 h1 H1
  exact ⟨_, h2, c2, V2, by simp only [o2, e1, e2, Option.bind_some], H2, l1.tr l2, q⟩
theorem EE_o2p {f : Int → Int → Int} {a b : gIE} {Q : Int → cT → Mem → Prop} (ha : EE a L c V (fun x c1 V1 => EE b L c1 V1 (fun y c2 V2 => y ≠ 0 ∧ Q (f x y) c2 V2))) : EE (o2p f a b) L c V Q := fun h H => by
  obtain ⟨x, h1, c1, V1, e1, H1, l1, q1⟩ := ha h H
  obtain ⟨y, h2, c2, V2, e2, H2, l2, q0, q⟩ := q1 h1 H1
  exact ⟨_, h2, c2, V2, by simp only [o2p, e1, e2, Option.bind_some, if_neg q0], H2, l1.tr l2, q⟩
theorem EE_cm {op : ClassFile.Cond} {a b : gIE} {Q : Bool → cT → Mem → Prop} (ha : EE a L c V (fun x c1 V1 => EE b L c1 V1 (fun y c2 V2 => Q (cmB op x y) c2 V2))) : EE (cmC op a b) L c V Q := fun h H => by
  obtain ⟨x, h1, c1, V1, e1, H1, l1, q1⟩ := ha h H
  obtain ⟨y, h2, c2, V2, e2, H2, l2, q⟩ := q1 h1 H1
  exact ⟨_, h2, c2, V2, by simp only [cmC, e1, e2, Option.bind_some], H2, l1.tr l2, q⟩
theorem EE_cz {op : ClassFile.Cond} {a : gIE} {Q : Bool → cT → Mem → Prop} (ha : EE a L c V (fun x c1 V1 => Q (cmB op x 0) c1 V1)) : EE (czC op a) L c V Q := fun h H => by
  obtain ⟨x, h1, c1, V1, e1, H1, l1, q1⟩ := ha h H
  exact ⟨_, h1, c1, V1, by simp only [czC, e1, Option.bind_some], H1, l1, q1⟩
end EER
