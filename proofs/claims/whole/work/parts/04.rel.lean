/-! THE RELATION between the machine and the semantics -/
/-- the texts that the class and the reference name, by their numbers -/
def gTxt : List (List Int) := [[103, 108, 97, 115, 115], [112, 101, 114, 115, 111, 110], [115, 116, 97, 121], [109, 111, 118, 101, 115], [115, 101, 101, 110], [115, 97, 121, 115], [100, 97, 121, 115], [112, 108, 97, 99, 101, 115], [99, 111, 108, 111, 117, 114, 115], [114, 101, 97, 99, 104], [115, 117, 114, 101], [99, 111, 108, 111, 117, 114], [112, 108, 97, 99, 101], [109, 101, 115, 115, 121], [98, 117, 121, 115], [102, 105, 114, 115, 116], [117, 110, 108, 105, 107, 101], [114, 97, 114, 101], [], [108, 105, 107, 101, 115], [107, 101, 101, 112, 115], [119, 101, 97, 114, 115], [116, 97, 107, 101, 115], [121, 101, 115], [110, 111], [116, 111], [103, 108, 97, 115, 115], [100, 97, 121, 115], [112, 108, 97, 99, 101, 115], [99, 111, 108, 111, 117, 114, 115], [114, 101, 97, 99, 104], [112, 101, 114, 115, 111, 110], [115, 116, 97, 121], [109, 111, 118, 101, 115], [115, 101, 101, 110], [115, 97, 121, 115], [115, 117, 114, 101], [99, 111, 108, 111, 117, 114], [112, 108, 97, 99, 101], [109, 101, 115, 115, 121], [98, 117, 121, 115], [102, 105, 114, 115, 116], [117, 110, 108, 105, 107, 101], [114, 97, 114, 101], [108, 105, 107, 101, 115], [107, 101, 101, 112, 115], [119, 101, 97, 114, 115], [116, 97, 107, 101, 115], [121, 101, 115], [110, 111], [116, 111]]
def gTw : List Cond := lw_tbl.filter goodWord
theorem gTw_mem {w : Cond} (h : w ∈ lw_tbl) (g : goodWord w = true) : w ∈ gTw := List.mem_filter.mpr ⟨h, g⟩
theorem gTw_at (i : Nat) {w : Cond} (h : lw_tbl[i]? = some w) (g : goodWord w = true) : w ∈ gTw := gTw_mem (List.mem_of_getElem? h) g
theorem gTw_good : GoodIn gTw gTw := fun w h => ⟨h, good_of_word (List.mem_filter.mp h).2⟩
theorem gTw_hts {args : Array Value} {s : State} (h : ∀ w ∈ lw_tbl, w.before args s = true) : ∀ w ∈ gTw, w.before args s = true := fun w hw => h w (List.mem_filter.mp hw).1
/-- code, own class, number of locals, whether it is a constructor -/
abbrev gK : Type := ByteArray × String × Nat × Bool
abbrev gX : Type := Program × Launch × Env × Room × State × MethodId × Array Value × List Frame × Method × Code × (State → Prop)
/-- D, literals' addresses, their arrays', what may be written, the machine, cells and slots at the method's start, depth -/
abbrev gG : Type := va_G × (Nat → Nat) × (Nat → Nat) × (Nat → Prop) × gX × (Nat × Nat) × Nat
def gTy : Nat → FieldType
  | 0 => .int
  | 1 => .byte
  | 2 => .long
  | _ => .boolean
def gTq : Nat → String
  | 0 => RX8
  | _ => RX10
def gVr (adK : Nat → Nat) (ws : va_W) (w : Value) (v : gAV) : Prop := match v with
  | .inl z => ∃ i : Int32, w = .int i ∧ i.toInt = z
  | .inr (.inl z) => ∃ i : Int64, w = .long i ∧ i.toInt = z
  | .inr (.inr (.inl none)) => w = .null
  | .inr (.inr (.inl (some k))) => ∃ (x : Nat) (e : va_E), w = .ref x ∧ ws[k]? = some (x, e)
  | .inr (.inr (.inr i)) => i < gTxt.length ∧ w = .ref (adK i)
def gRf (ws : va_W) (x : Option Nat) (r : Option Nat) : Prop := match r with
  | none => x = none
  | some k => ∃ (y : Nat) (e : va_E), x = some y ∧ ws[k]? = some (y, e)
abbrev gTs : Type := List (ClassId × FieldType)
def gEo (adK : Nat → Nat) (tys : gTs) (ws : va_W) (e : va_E) (o : gOb) : Prop := match o with
  | .inl (ci, fs) => ∃ gs : List Value, e = .inr (ci, gs) ∧ gs.length = fs.length ∧ ∀ (k : Nat) (v : gAV), fs[k]? = some v → ∃ w : Value, gs[k]? = some w ∧ gVr adK ws w v
  | .inr (.inl (ty, n, f)) => n < 2 ^ 31 ∧ ∃ cA : ClassId, (∃ t0 : Nat, tys[t0]? = some (cA, gTy ty)) ∧ ((ty = 2 ∧ ∃ g : Nat → Int64, e = .inl (cA, n, .inr (.inl g)) ∧ ∀ i : Nat, i < n → f i = (g i).toInt) ∨ (ty ≠ 2 ∧ ∃ g : Nat → Int32, e = .inl (cA, n, .inl g) ∧ ∀ i : Nat, i < n → f i = (g i).toInt))
  | .inr (.inr (ty, n, f)) => n < 2 ^ 31 ∧ ∃ cA : ClassId, (∃ t0 : Nat, tys[t0]? = some (cA, FieldType.object (gTq ty))) ∧ ∃ g : Nat → Option Nat, e = .inl (cA, n, .inr (.inr (.inr (.inr g)))) ∧ ∀ i : Nat, i < n → gRf ws (g i) (f i)
def gHR (adK : Nat → Nat) (tys : gTs) (ws : va_W) (h : gH) : Prop := ws.length = h.1.1 ∧ ∀ (k : Nat) (o : gOb), h.2 k = some o → ∃ (x : Nat) (e : va_E), ws[k]? = some (x, e) ∧ gEo adK tys ws e o
/-- an object's class -/
def gKd : va_E → Option Nat
  | .inr a => some a.1
  | .inl _ => none
def gExt (ws ws' : va_W) : Prop := ∀ (k : Nat) (x : Nat) (e : va_E), ws[k]? = some (x, e) → ∃ e' : va_E, ws'[k]? = some (x, e') ∧ gKd e' = gKd e
def gTx (tys tys' : gTs) : Prop := ∀ (t0 : Nat) (q : ClassId × FieldType), tys[t0]? = some q → ∃ t1 : Nat, tys'[t1]? = some q
def gLe (h h' : gH) : Prop := h.1.1 ≤ h'.1.1 ∧ h.1.2.1 ≤ h'.1.2.1 ∧ h.1.2.2 ≤ h'.1.2.2
theorem gLe.rf {h : gH} : gLe h h := ⟨Nat.le_refl _, Nat.le_refl _, Nat.le_refl _⟩
theorem gLe.tr {h h' h'' : gH} (a : gLe h h') (b : gLe h' h'') : gLe h h'' := ⟨Nat.le_trans a.1 b.1, Nat.le_trans a.2.1 b.2.1, Nat.le_trans a.2.2 b.2.2⟩
theorem gLe.of {h h' : gH} (e : h'.1 = h.1) : gLe h h' := by unfold gLe; rw [e]; exact ⟨Nat.le_refl _, Nat.le_refl _, Nat.le_refl _⟩
theorem gExt.rf {ws : va_W} : gExt ws ws := fun _ _ e h => ⟨e, h, rfl⟩
theorem gExt.tr {a b c : va_W} (h : gExt a b) (g : gExt b c) : gExt a c := fun k x e q => by
  obtain ⟨e', q', q1⟩ := h k x e q
  obtain ⟨e2, q2, q3⟩ := g k x e' q'
  exact ⟨e2, q2, q3.trans q1⟩
theorem gExt.set {ws : va_W} {k x : Nat} {e e' : va_E} (h : ws[k]? = some (x, e)) (hs : gKd e' = gKd e) : gExt ws (ws.set k (x, e')) := by
  intro j y f hj
  by_cases hk : k = j
  · subst hk
    rw [h] at hj
    cases hj
    exact ⟨e', by rw [List.getElem?_set_self (List.getElem?_eq_some_iff.mp h).1], hs⟩
  · exact ⟨f, by rw [List.getElem?_set_ne hk]; exact hj, rfl⟩
theorem gExt.app {ws w2 : va_W} : gExt ws (ws ++ w2) := fun k x e h => ⟨e, by rw [List.getElem?_append_left (List.getElem?_eq_some_iff.mp h).1]; exact h, rfl⟩
theorem gTx.rf {tys : gTs} : gTx tys tys := fun t _ h => ⟨t, h⟩
theorem gTx.app {tys t2 : gTs} : gTx tys (tys ++ t2) := fun t _ h => ⟨t, by rw [List.getElem?_append_left (List.getElem?_eq_some_iff.mp h).1]; exact h⟩
theorem gVr_ext {adK : Nat → Nat} {ws ws' : va_W} (hx : gExt ws ws') {w : Value} {v : gAV} (h : gVr adK ws w v) : gVr adK ws' w v := by
  match v, h with
  | .inl z, h => exact h
  | .inr (.inl z), h => exact h
  | .inr (.inr (.inl none)), h => exact h
  | .inr (.inr (.inl (some k))), h =>
    obtain ⟨x, e, rfl, h2⟩ := h
    obtain ⟨e', h3, -⟩ := hx k x e h2
    exact ⟨x, e', rfl, h3⟩
  | .inr (.inr (.inr i)), h => exact h
theorem gRf_ext {ws ws' : va_W} (hx : gExt ws ws') {x r : Option Nat} (h : gRf ws x r) : gRf ws' x r := by
  match r, h with
  | none, h => exact h
  | some k, h =>
    obtain ⟨y, e, rfl, h2⟩ := h
    obtain ⟨e', h3, -⟩ := hx k y e h2
    exact ⟨y, e', rfl, h3⟩
theorem gEo_ext {adK : Nat → Nat} {tys tys' : gTs} {ws ws' : va_W} (hx : gExt ws ws') (ht : gTx tys tys') {e : va_E} {o : gOb} (h : gEo adK tys ws e o) : gEo adK tys' ws' e o := by
  match o, h with
  | .inl (ci, fs), h =>
    obtain ⟨gs, h1, h2, h3⟩ := h
    refine ⟨gs, h1, h2, fun k v hv => ?_⟩
    obtain ⟨w, h4, h5⟩ := h3 k v hv
    exact ⟨w, h4, gVr_ext hx h5⟩
  | .inr (.inl (ty, n, f)), h =>
    obtain ⟨hn, cA, ⟨t0, h1⟩, h2⟩ := h
    exact ⟨hn, cA, ht t0 _ h1, h2⟩
  | .inr (.inr (ty, n, f)), h =>
    obtain ⟨hn, cA, ⟨t0, h1⟩, g, h2, h3⟩ := h
    exact ⟨hn, cA, ht t0 _ h1, g, h2, fun i hi => gRf_ext hx (h3 i hi)⟩
/-- one object is another one now -/
theorem gHR_set {adK : Nat → Nat} {tys : gTs} {ws : va_W} {h : gH} (H : gHR adK tys ws h) {k x : Nat} {e e' : va_E} (hk : ws[k]? = some (x, e)) (hs : gKd e' = gKd e) {o : gOb} (ho : gEo adK tys (ws.set k (x, e')) e' o) : gHR adK tys (ws.set k (x, e')) (h.1, gUp h.2 k (some o)) := by
  refine ⟨by rw [List.length_set]; exact H.1, fun j q hq => ?_⟩
  by_cases hj : j = k
  · subst hj
    simp [gUp] at hq
    subst hq
    exact ⟨x, e', by rw [List.getElem?_set_self (List.getElem?_eq_some_iff.mp hk).1], ho⟩
  · simp [gUp, hj] at hq
    obtain ⟨y, f, h1, h2⟩ := H.2 j q hq
    exact ⟨y, f, by rw [List.getElem?_set_ne (fun z => hj z.symm)]; exact h1, gEo_ext (gExt.set hk hs) gTx.rf h2⟩
theorem gHR_push {adK : Nat → Nat} {tys tys' : gTs} {ws : va_W} {h : gH} (H : gHR adK tys ws h) (ht : gTx tys tys') {x : Nat} {e : va_E} {o : gOb} {n : Nat} (ho : gEo adK tys' (ws ++ [(x, e)]) e o) : gHR adK tys' (ws ++ [(x, e)]) (gPush h n o) := by
  refine ⟨by simp [gPush, H.1], fun j q hq => ?_⟩
  by_cases hj : j = h.1.1
  · subst hj
    simp [gUp, gPush] at hq
    subst hq
    exact ⟨x, e, by rw [← H.1]; simp, ho⟩
  · simp [gUp, gPush, hj] at hq
    obtain ⟨y, f, h1, h2⟩ := H.2 j q hq
    exact ⟨y, f, by rw [List.getElem?_append_left (List.getElem?_eq_some_iff.mp h1).1]; exact h1, gEo_ext gExt.app ht h2⟩
-- methods' table, rooms, the environment
/-- name, code, locals, what it returns, the number of its class (none: static) -/
abbrev gMi : Type := MethodName × ByteArray × Nat × Option FieldType × Option Nat
def gRoom (d mc ms : Nat) : Room := { frames := d, cells := mc, slots := ms, locals := 64 * d }
/-- the texts' cells: what they hold (two of them may be one cell) -/
def gVS (adK adV : Nat → Nat) (A : Nat → Prop) (U : State) (H : Heap) : Prop := ∀ i : Nat, i < gTxt.length → va_O "java/lang/String" (adK i) A U H ∧ va_OF "java/lang/String" "coder" "B" (.int 0) (adK i) A U H ∧ va_OF "java/lang/String" "value" "[B" (.ref (adV i)) (adK i) A U H ∧ va_T .byte (adV i) ((gTxt.map List.length).getD i 0) (fun j => .int (((gTxt.map (fun t => t.map Int32.ofInt)).getD i []).getD j 0)) A U H
theorem gVS.moved {adK adV : Nat → Nat} {A : Nat → Prop} {u U : State} {H : Heap} (hvm : u.vm.Alike U.vm) (h : gVS adK adV A u H) : gVS adK adV A U H := fun i hi => ⟨(h i hi).1.moved hvm, (h i hi).2.1.moved hvm, (h i hi).2.2.1.moved hvm, (h i hi).2.2.2.moved hvm⟩
theorem gVS.kept {adK adV : Nat → Nat} {A : Nat → Prop} {U : State} {H H1 : Heap} (h : gVS adK adV A U H) (hq : ∀ a : Nat, a < H.size → ¬ A a → H1[a]? = H[a]?) : gVS adK adV A U H1 := fun i hi => ⟨(h i hi).1.kept hq, (h i hi).2.1.kept hq, (h i hi).2.2.1.kept hq, (h i hi).2.2.2.kept hq⟩
theorem gVS.narrow {adK adV : Nat → Nat} {A B : Nat → Prop} {U : State} {H : Heap} (h : gVS adK adV A U H) (hAB : ∀ q, B q → A q) : gVS adK adV B U H := fun i hi => ⟨(h i hi).1.narrow hAB, (h i hi).2.1.narrow hAB, (h i hi).2.2.1.narrow hAB, (h i hi).2.2.2.narrow hAB⟩
theorem gVS.recv {adK adV : Nat → Nat} {A : Nat → Prop} {s : State} {H : Heap} {locs : List Loc} {i : Nat} (h : gVS adK adV A s s.heap) (hi : i < gTxt.length) (hS : va_S A s.heap H locs) : ∃ cell : Cell, H[adK i]? = some cell ∧ cell.vm.isStatics = false ∧ s.vm.findClass "java/lang/String" = some cell.cls := by
  obtain ⟨cell, h1, h2, h3, -⟩ := (h i hi).1.kept hS.2.1
  exact ⟨cell, h1, h2, h3⟩
/-- arrays of references can be made; what two statics of the JDK hold -/
def gEm (A : Nat → Prop) (U : State) (H : Heap) : Prop := (∀ i : Nat, va_AO (gTq i) U) ∧ va_Z "java/lang/String" "COMPACT_STRINGS" "Z" (.int 1) A U H ∧ ∃ q : Option Nat, va_Z "jdk/internal/util/Preconditions" "SIOOBE_FORMATTER" "Ljava/util/function/BiFunction;" (va_rf q) A U H
def gEv (Nw : List Cond) (Sr : List (String × Nat × String × Nat)) (adK adV : Nat → Nat) (A : Nat → Prop) (U : State) (H : Heap) : Prop := (∀ w ∈ Nw, va_Nw w U) ∧ (∀ q ∈ Sr, vk_R q.1 q.2.1 q.2.2.1 (adK q.2.2.2) U) ∧ gVS adK adV A U H ∧ gEm A U H
def gArgs (adK : Nat → Nat) (ws : va_W) (vals : List Value) (as : List gAV) : Prop := vals.length = as.length ∧ ∀ (k : Nat) (v : gAV), as[k]? = some v → ∃ w : Value, vals[k]? = some w ∧ gVr adK ws w v
def gRet (adK : Nat → Nat) (ws : va_W) (w : Option Value) (v : Option gAV) : Prop := match v with
  | none => w = none
  | some a => ∃ x : Value, w = some x ∧ gVr adK ws x a
