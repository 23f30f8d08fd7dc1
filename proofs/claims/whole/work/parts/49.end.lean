/-! THE CLAIM OUT OF ONE WALK OF THE LAW'S BODY. Your part is whole_start (and what it stands on); all else here is the same for every law, but numbers. -/
def R_law : String := "BrushGlassLaw"
def lw_P (b : Addr) (xs : List Int32) (args : Array Value) (s : State) : Prop := args = #[.ref b] ∧ s.IntsAt b xs ∧ xs.length ≤ 3072 ∧ (Jvm.Cond.and given_1 narrow_1).before args s = true
def lw_Q (_ : Array Value) (s : State) (o : Outcome) (t : State) : Prop := o = .returned (some (.int 1)) ∧ Framed s o t [] 601024 7293034
def lw_Z (below : List Frame) (a : Array Value) (s : State) : State → Prop := fun t => ∃ o, t.status = .running ∧ Ended t below o ∧ lw_Q a s o t
/-- the law's own end, with 1 on the stack, nothing written that was there before, its room as the claim has it -/
theorem lw_ret {p : Program} {l : Launch} {e : Env} {s : State} {m : MethodId} {below : List Frame} {meth : Method} {c : Code} {b : Nat} (hx : p.tables.exec = Jvm.exec) (hb : c.code = code) (hr : meth.sig.returnType = ret) (hlocks : meth.locks = false) {pc : Nat} {H : Heap} {ls : Array Slot} (hdg : decode code pc = .ok (.ireturn, 1)) : W p l e room_1 s m #[Value.ref b] below meth c H [] 601024 7293034 (lw_Z below #[Value.ref b] s) (F0 m pc ls [.int 1]) := by
  intro T hT X
  obtain ⟨fs, hret, hrun, hended, hW, hframe⟩ := X.leave (v := some (.int 1)) (hlocks := hlocks) (fun h => by rw [hr] at h; cases h)
  have hmeth' : T.vm.method? m = some meth := X.method'
  refine ⟨T.setFrames fs, ?_, .returned (some (.int 1)), hrun, hended, rfl, ⟨_, rfl⟩, hW, hframe⟩
  jvm_step X.here [X.here.top, hx, hb, hdg, hmeth', hr, ret, narrow_b1]
  (try refine ⟨rfl, ?_⟩); (try refine ⟨rfl, ?_⟩)
  first | (intro acts; rw [hret _ acts rfl rfl rfl]) | rw [hret _ _ rfl rfl rfl]
  exact Steps.refl _
/-- what holds at the law's entry: the machine, the code, the tables' words (any of lw_tbl by 'hts w (by decide +kernel)'), the script of L ints xs at the cell b, what the Statement gives of the start (any of its parts by flat_of_before) -/
def lw_At (p : Program) (s : State) (m : MethodId) (meth : Method) (c : Code) (b L : Nat) (xs : Nat → Int32) : Prop :=
  p.tables.exec = Jvm.exec ∧ c.code = code ∧ meth.sig.returnType = ret ∧ c.maxLocals = 7 ∧ s.vm.findClass R_law = some m.cls ∧ (∀ w ∈ lw_tbl, w.before #[Value.ref b] s = true) ∧ va_X b L xs s s.heap ∧ b < s.heap.size ∧ meth.locks = false ∧ (Jvm.Cond.and given_1 narrow_1).before #[Value.ref b] s = true

/-! THE MACHINE LEVEL'S END, printed by wip/whole/law4.py -/
def g0H : gH := ((0, 0, 0), fun _ => none)
/-- what the meaning level must give -/
def lawGood : Prop := ∃ (n d X M O : Nat) (h1 h2 h3 : gH), 8 ≤ d ∧ d ≤ 1300 ∧ (∀ L, nwR (gOr n d) 11 gF_11 87 a0 L g0H = some (some X, h1)) ∧ (∀ L, nwR (gOr n d) 13 gF_13 170 a0 L h1 = some (some M, h2)) ∧ (∀ L, naR 2 (kI 1) L h2 = some (some O, h3)) ∧
  ∀ (xs : Nat → Int32) (len : Nat), len ≤ 3072 → ∃ Inv : Nat → gH → Prop, Inv 0 h3 ∧ (∀ i h, Inv i h → h.1.2.1 ≤ 601024 ∧ h.1.2.2 ≤ 7293034 ∧ ∃ fs, h.2 X = some (oO 11 fs)) ∧ ∀ i h, i + 6 ≤ len → Inv i h → ∃ h', gStep (gOr n d) n X M O xs i h = some h' ∧ Inv (i + 6) h'
theorem law_all (hG : lawGood) {p : Program} {e : Env} {s : State} {m : MethodId} {below : List Frame} {meth : Method} {c : Code} (l : Launch) (hflags : l.flags = flags0) {b L : Nat} {xs : Nat → Int32} (hL : L ≤ 3072) (C0 : lw_At p s m meth c b L xs) : W p l e room_1 s m #[Value.ref b] below meth c s.heap [] 0 0 (lw_Z below #[Value.ref b] s) (entryFrame m ([Value.ref b] : List Value).toArray 7) := by
  obtain ⟨hx, hb, hr, hml, hown, hts, hX, hbl, hlocks, hgv⟩ := id C0
  obtain ⟨n, d, X, M, O, h1, h2, h3, hd8, hd, e1, e2, e3, hI⟩ := hG
  obtain ⟨Inv, i0, ib, istep⟩ := hI xs L hL
  have hts2 := gTw_hts hts
  obtain ⟨D, hKc⟩ := st_known hts2
  obtain ⟨adK, adV, hE, hJ⟩ := st_env hts hgv
  have ok : gOK (code, RL, 7, false) (gOr n d) (D, adK, adV, fun q => s.heap.size ≤ q, (p, l, e, room_1, s, m, #[Value.ref b], below, meth, c, lw_Z below #[Value.ref b] s), (0, 0), d) :=
    ⟨⟨hx, hb, hml, hown, hts2⟩, fun _ h => h, by show d + 1 ≤ 2048; omega, by show 64 * (d + 1) ≤ 84000; omega, hE, gOr_ok l D adK adV n d, fun hi => by cases hi⟩
  have hw : gLw (D, adK, adV, fun q => s.heap.size ≤ q, (p, l, e, room_1, s, m, #[Value.ref b], below, meth, c, lw_Z below #[Value.ref b] s), (0, 0), d) :=
    ⟨st_flag hflags, hJ, by show d + 3 ≤ 2048; omega, by show 64 * (d + 3) ≤ 84000; omega, hd8⟩
  have hsc : gScr (D, adK, adV, fun q => s.heap.size ≤ q, (p, l, e, room_1, s, m, #[Value.ref b], below, meth, c, lw_Z below #[Value.ref b] s), (0, 0), d) b xs L := ⟨hX, hbl, Nat.not_le.mpr hbl⟩
  have hS : gS (D, adK, adV, fun q => s.heap.size ≤ q, (p, l, e, room_1, s, m, #[Value.ref b], below, meth, c, lw_Z below #[Value.ref b] s), (0, 0), d) [] [] g0H s.heap [] :=
    ⟨⟨hKc, fun k q h => by simp at h⟩, fun k q h => by simp at h, ⟨fun i j p q h => by simp at h, fun k q h => by simp at h⟩, va_S.rf, ⟨rfl, fun k o h => by cases h⟩, Nat.le_refl _, Nat.le_refl _⟩
  have hrm : ∀ i h, Inv i h → gRm (D, adK, adV, fun q => s.heap.size ≤ q, (p, l, e, room_1, s, m, #[Value.ref b], below, meth, c, lw_Z below #[Value.ref b] s), (0, 0), d) h := fun i h q => ⟨(ib i h q).1, (ib i h q).2.1⟩
  have hlv := lv_entry ([.ref b]) (n := 7) (Nat.le_of_ble_eq_true rfl)
  rw [lg_entry_eq]
  generalize (lg_sl ([.ref b]) ++ List.replicate (7 - (lg_sl ([.ref b])).length) Slot.unset).toArray = ls at hlv ⊢
  have hlv : lv_has ls 7 [(0, .ref b)] := hlv
  have fin := law_pro (X := X) (M := M) (O := O) _ ok g0H h1 h2 h3 e1 e2 e3 [] [] s.heap [] ls (lv_at hlv 0 rfl) hS hlv.1 hlv.2.1 (hrm _ _ i0) fun ws' tys' H' locs' ls' hS' h0' hL' => ?_
  · exact fin
  · refine law_loop _ ok hw hsc hL Inv hrm (fun i h q => (ib i h q).2.2) istep ?_ L 0 (by omega) h3 ws' tys' H' locs' ls' (by omega) i0 h0' hS' hL'
    intro i h ws tys H locs ls hq hSq hLq
    have hbd := ib i h hq
    refine lv_iconst (v := 1) hx hb (by decide +kernel : decode code 1789 = .ok (.iconst 1, 1)) (by decide) ?_
    refine W.widen (k := 601024) (n := 7293034) (by have := hbd.1; omega) (by have := hbd.2.1; omega) ?_
    refine va_forget (fun q h => hSq.2.2.2.1.2.2 q h) ?_
    exact lw_ret hx hb hr hlocks (by decide +kernel : decode code 1790 = .ok (.ireturn, 1))
