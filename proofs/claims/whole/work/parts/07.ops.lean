/-! RULES of arithmetic, fields, arrays -/
/-- an instruction of two ints -/
def gOp2 (ins : Instr) (f : Int → Int → Int) : Prop := ∀ {p : Program} {l : Launch} {e : Env} {R : Room} {s : State} {m : MethodId} {args : Array Value} {below : List Frame} {meth : Method} {c : Code} {H : Heap} {locs : List Loc} {cells slots : Nat} {Q : State → Prop} {cc : ByteArray} {pc : Nat} {ls : Array Slot} {rest : List Value} (_ : p.tables.exec = Jvm.exec) (_ : c.code = cc) (_ : decode cc pc = .ok (ins, 1)) (x y : Int32) (_ : ∀ i : Int32, i.toInt = f x.toInt y.toInt → W p l e R s m args below meth c H locs cells slots Q (F0 m (pc + 1) ls (.int i :: rest))), W p l e R s m args below meth c H locs cells slots Q (F0 m pc ls (.int y :: .int x :: rest))
def gOp2p (ins : Instr) (f : Int → Int → Int) : Prop := ∀ {p : Program} {l : Launch} {e : Env} {R : Room} {s : State} {m : MethodId} {args : Array Value} {below : List Frame} {meth : Method} {c : Code} {H : Heap} {locs : List Loc} {cells slots : Nat} {Q : State → Prop} {cc : ByteArray} {pc : Nat} {ls : Array Slot} {rest : List Value} (_ : p.tables.exec = Jvm.exec) (_ : c.code = cc) (_ : decode cc pc = .ok (ins, 1)) (x y : Int32) (_ : ¬ y.toInt = 0) (_ : ∀ i : Int32, i.toInt = f x.toInt y.toInt → W p l e R s m args below meth c H locs cells slots Q (F0 m (pc + 1) ls (.int i :: rest))), W p l e R s m args below meth c H locs cells slots Q (F0 m pc ls (.int y :: .int x :: rest))
def gOl2 (ins : Instr) (f : Int → Int → Int) : Prop := ∀ {p : Program} {l : Launch} {e : Env} {R : Room} {s : State} {m : MethodId} {args : Array Value} {below : List Frame} {meth : Method} {c : Code} {H : Heap} {locs : List Loc} {cells slots : Nat} {Q : State → Prop} {cc : ByteArray} {pc : Nat} {ls : Array Slot} {rest : List Value} (_ : p.tables.exec = Jvm.exec) (_ : c.code = cc) (_ : decode cc pc = .ok (ins, 1)) (x y : Int64) (_ : ∀ i : Int64, i.toInt = f x.toInt y.toInt → W p l e R s m args below meth c H locs cells slots Q (F0 m (pc + 1) ls (.long i :: rest))), W p l e R s m args below meth c H locs cells slots Q (F0 m pc ls (.long y :: .long x :: rest))
def gOl2p (ins : Instr) (f : Int → Int → Int) : Prop := ∀ {p : Program} {l : Launch} {e : Env} {R : Room} {s : State} {m : MethodId} {args : Array Value} {below : List Frame} {meth : Method} {c : Code} {H : Heap} {locs : List Loc} {cells slots : Nat} {Q : State → Prop} {cc : ByteArray} {pc : Nat} {ls : Array Slot} {rest : List Value} (_ : p.tables.exec = Jvm.exec) (_ : c.code = cc) (_ : decode cc pc = .ok (ins, 1)) (x y : Int64) (_ : ¬ y.toInt = 0) (_ : ∀ i : Int64, i.toInt = f x.toInt y.toInt → W p l e R s m args below meth c H locs cells slots Q (F0 m (pc + 1) ls (.long i :: rest))), W p l e R s m args below meth c H locs cells slots Q (F0 m pc ls (.long y :: .long x :: rest))
theorem g_of (x : Int32) : Int32.ofInt x.toInt = x := Int32.ofInt_toInt x
theorem g_ne0 {y : Int32} (h : ¬ y.toInt = 0) : ¬ y = 0 := fun e => h (by rw [e]; rfl)
theorem g_ne0l {y : Int64} (h : ¬ y.toInt = 0) : ¬ y = 0 := fun e => h (by rw [e]; rfl)
theorem op_add : gOp2 .iadd zAdd := fun hx hb hd x y k => lv_iadd hx hb hd (k _ (by simp [zAdd, wr]))
theorem op_sub : gOp2 .isub zSub := fun hx hb hd x y k => lv_isub hx hb hd (k _ (by simp [zSub, wr]))
theorem op_mul : gOp2 .imul zMul := fun hx hb hd x y k => lv_imul hx hb hd (k _ (by simp [zMul, wr]))
theorem op_and : gOp2 .iand zAnd := fun hx hb hd x y k => lv_iand hx hb hd (k _ (by simp [zAnd, g_of]))
theorem op_or : gOp2 .ior zOr := fun hx hb hd x y k => lv_ior hx hb hd (k _ (by simp [zOr, g_of]))
theorem op_xor : gOp2 .ixor zXor := fun hx hb hd x y k => lv_ixor hx hb hd (k _ (by simp [zXor, g_of]))
theorem op_shl : gOp2 .ishl zShl := fun hx hb hd x y k => lv_ishl hx hb hd (k _ (by simp only [zShl, g_of]))
theorem op_shr : gOp2 .ishr zShr := fun hx hb hd x y k => lv_ishr hx hb hd (k _ (by simp only [zShr, g_of]))
theorem op_ush : gOp2 .iushr zUsh := fun hx hb hd x y k => lv_iushr hx hb hd rfl (k _ (by simp only [zUsh, g_of]))
theorem g_remI (x y : Int32) : (x - x / y * y).toInt = x.toInt.tmod y.toInt := by
  have e : x.toInt.tmod y.toInt = (x % y).toInt := (Int32.toInt_mod x y).symm
  have e2 : x.toInt - x.toInt.tdiv y.toInt * y.toInt = x.toInt.tmod y.toInt := by rw [Int.tmod_def, Int.mul_comm]
  rw [Int32.toInt_sub, Int32.toInt_mul, Int32.toInt_div, Int.bmod_mul_bmod, Int.sub_bmod_bmod, e2, e]
  exact Int32.toInt_bmod _
theorem g_remJ (x y : Int64) : (x - x / y * y).toInt = x.toInt.tmod y.toInt := by
  have e : x.toInt.tmod y.toInt = (x % y).toInt := (Int64.toInt_mod x y).symm
  have e2 : x.toInt - x.toInt.tdiv y.toInt * y.toInt = x.toInt.tmod y.toInt := by rw [Int.tmod_def, Int.mul_comm]
  rw [Int64.toInt_sub, Int64.toInt_mul, Int64.toInt_div, Int.bmod_mul_bmod, Int.sub_bmod_bmod, e2, e]
  exact Int64.toInt_bmod _
theorem op_div : gOp2p .idiv zDiv := fun hx hb hd x y hy k => lv_idiv hx hb hd (g_ne0 hy) (k _ (by simp [zDiv, wr]))
theorem op_rem : gOp2p .irem zRem := fun hx hb hd x y hy k => lv_irem hx hb hd (g_ne0 hy) (k _ (by rw [g_remI]; rfl))
theorem op_ladd : gOl2 .ladd lAdd := fun hx hb hd x y k => lv_ladd hx hb hd (k _ (by simp [lAdd, wl]))
theorem op_lsub : gOl2 .lsub lSub := fun hx hb hd x y k => lv_lsub hx hb hd (k _ (by simp [lSub, wl]))
theorem op_lmul : gOl2 .lmul lMul := fun hx hb hd x y k => lv_lmul hx hb hd (k _ (by simp [lMul, wl]))
theorem op_ldiv : gOl2p .ldiv lDiv := fun hx hb hd x y hy k => lv_ldiv hx hb hd (g_ne0l hy) (k _ (by simp [lDiv, wl]))
theorem op_lrem : gOl2p .lrem lRem := fun hx hb hd x y hy k => lv_lrem hx hb hd (g_ne0l hy) (k _ (by rw [g_remJ]; rfl))
theorem gCat_i {i : Int32} {r : List Value} : gCat (.int i :: r) = gCat r + 1 := by simp [gCat, Value.category]; omega
theorem gCat_l {i : Int64} {r : List Value} : gCat (.long i :: r) = gCat r + 2 := by simp [gCat, Value.category]; omega
theorem gCat_r {i : Nat} {r : List Value} : gCat (.ref i :: r) = gCat r + 1 := by simp [gCat, Value.category]; omega
theorem gCat_n {r : List Value} : gCat (.null :: r) = gCat r + 1 := by simp [gCat, Value.category]; omega
theorem gCat_vI {adK : Nat → Nat} {ws : va_W} {w : Value} {z : Int} {r : List Value} (h : gVr adK ws w (vI z)) : gCat (w :: r) = gCat r + 1 := by
  obtain ⟨i, rfl, -⟩ := h
  exact gCat_i
theorem gCat_vL {adK : Nat → Nat} {ws : va_W} {w : Value} {z : Int} {r : List Value} (h : gVr adK ws w (vL z)) : gCat (w :: r) = gCat r + 2 := by
  obtain ⟨i, rfl, -⟩ := h
  exact gCat_l
theorem gCat_vR {adK : Nat → Nat} {ws : va_W} {w : Value} {z : Option Nat} {r : List Value} (h : gVr adK ws w (vR z)) : gCat (w :: r) = gCat r + 1 := by
  match z, h with
  | none, h =>
    have h3 : w = .null := h
    subst h3
    exact gCat_n
  | some y, h =>
    obtain ⟨x, e, rfl, -⟩ := h
    exact gCat_r
theorem gCat_vS {adK : Nat → Nat} {ws : va_W} {w : Value} {z : Nat} {r : List Value} (h : gVr adK ws w (vS z)) : gCat (w :: r) = gCat r + 1 := by
  obtain ⟨-, rfl⟩ := h
  exact gCat_r
section E2
variable {k : gK} {C : gOrc} {n pc : Nat}
theorem gI_op2 {ins : Instr} {f : Int → Int → Int} {a b : gIE} {p1 p2 : Nat} (ho : gOp2 ins f) (ha : gI k C n pc p1 a) (hb' : gI k C (n + 1) p1 p2 b) (hd : decode k.1 p2 = .ok (ins, 1)) : gI k C n pc (p2 + 1) (o2 f a b) := by
  intro Γ ok L h r h' he
  simp only [o2, Option.bind_eq_some_iff, Option.some.injEq, Prod.mk.injEq] at he
  obtain ⟨⟨x, h1⟩, e1, ⟨y, h2⟩, e2, rfl, rfl⟩ := he
  obtain ⟨g1, K1⟩ := ha Γ ok L h x h1 e1
  obtain ⟨g2, K2⟩ := hb' Γ ok L h1 y h2 e2
  refine ⟨g1.tr g2, fun ws tys H locs ls rest hS hL hc hm kk => ?_⟩
  refine K1 ws tys H locs ls rest hS hL hc (gRm.le g2 hm) fun ws1 tys1 H1 locs1 w1 hS1 hx1 hv1 => ?_
  refine K2 ws1 tys1 H1 locs1 ls (w1 :: rest) hS1 (hL.ext hx1) (by rw [gCat_vI hv1]; omega) hm fun ws2 tys2 H2 locs2 w2 hS2 hx2 hv2 => ?_
  obtain ⟨i1, rfl, q1⟩ := hv1
  obtain ⟨i2, rfl, q2⟩ := hv2
  obtain ⟨D, adK, adV, A, ⟨p, l, e, R, s, m, args, below, meth, c, Q⟩, b, d⟩ := Γ
  obtain ⟨⟨hx, hb, hml, hown, hts⟩, -⟩ := ok
  exact ho hx hb hd i1 i2 fun i hi => kk ws2 tys2 H2 locs2 (.int i) hS2 (hx1.tr hx2) ⟨i, rfl, by rw [hi, q1, q2]⟩
theorem gI_op2p {ins : Instr} {f : Int → Int → Int} {a b : gIE} {p1 p2 : Nat} (ho : gOp2p ins f) (ha : gI k C n pc p1 a) (hb' : gI k C (n + 1) p1 p2 b) (hd : decode k.1 p2 = .ok (ins, 1)) : gI k C n pc (p2 + 1) (o2p f a b) := by
  intro Γ ok L h r h' he
  simp only [o2p, Option.bind_eq_some_iff] at he
  obtain ⟨⟨x, h1⟩, e1, ⟨y, h2⟩, e2, he⟩ := he
  split at he
  · cases he
  rename_i hne
  simp only [Option.some.injEq, Prod.mk.injEq] at he
  obtain ⟨rfl, rfl⟩ := he
  obtain ⟨g1, K1⟩ := ha Γ ok L h x h1 e1
  obtain ⟨g2, K2⟩ := hb' Γ ok L h1 y h2 e2
  refine ⟨g1.tr g2, fun ws tys H locs ls rest hS hL hc hm kk => ?_⟩
  refine K1 ws tys H locs ls rest hS hL hc (gRm.le g2 hm) fun ws1 tys1 H1 locs1 w1 hS1 hx1 hv1 => ?_
  refine K2 ws1 tys1 H1 locs1 ls (w1 :: rest) hS1 (hL.ext hx1) (by rw [gCat_vI hv1]; omega) hm fun ws2 tys2 H2 locs2 w2 hS2 hx2 hv2 => ?_
  obtain ⟨i1, rfl, q1⟩ := hv1
  obtain ⟨i2, rfl, q2⟩ := hv2
  obtain ⟨D, adK, adV, A, ⟨p, l, e, R, s, m, args, below, meth, c, Q⟩, b, d⟩ := Γ
  obtain ⟨⟨hx, hb, hml, hown, hts⟩, -⟩ := ok
  exact ho hx hb hd i1 i2 (by rw [q2]; exact hne) fun i hi => kk ws2 tys2 H2 locs2 (.int i) hS2 (hx1.tr hx2) ⟨i, rfl, by rw [hi, q1, q2]⟩
theorem gJ_op2 {ins : Instr} {f : Int → Int → Int} {a b : gIE} {p1 p2 : Nat} (ho : gOl2 ins f) (ha : gJ k C n pc p1 a) (hb' : gJ k C (n + 2) p1 p2 b) (hd : decode k.1 p2 = .ok (ins, 1)) : gJ k C n pc (p2 + 1) (o2 f a b) := by
  intro Γ ok L h r h' he
  simp only [o2, Option.bind_eq_some_iff, Option.some.injEq, Prod.mk.injEq] at he
  obtain ⟨⟨x, h1⟩, e1, ⟨y, h2⟩, e2, rfl, rfl⟩ := he
  obtain ⟨g1, K1⟩ := ha Γ ok L h x h1 e1
  obtain ⟨g2, K2⟩ := hb' Γ ok L h1 y h2 e2
  refine ⟨g1.tr g2, fun ws tys H locs ls rest hS hL hc hm kk => ?_⟩
  refine K1 ws tys H locs ls rest hS hL hc (gRm.le g2 hm) fun ws1 tys1 H1 locs1 w1 hS1 hx1 hv1 => ?_
  refine K2 ws1 tys1 H1 locs1 ls (w1 :: rest) hS1 (hL.ext hx1) (by rw [gCat_vL hv1]; omega) hm fun ws2 tys2 H2 locs2 w2 hS2 hx2 hv2 => ?_
  obtain ⟨i1, rfl, q1⟩ := hv1
  obtain ⟨i2, rfl, q2⟩ := hv2
  obtain ⟨D, adK, adV, A, ⟨p, l, e, R, s, m, args, below, meth, c, Q⟩, b, d⟩ := Γ
  obtain ⟨⟨hx, hb, hml, hown, hts⟩, -⟩ := ok
  exact ho hx hb hd i1 i2 fun i hi => kk ws2 tys2 H2 locs2 (.long i) hS2 (hx1.tr hx2) ⟨i, rfl, by rw [hi, q1, q2]⟩
theorem gJ_op2p {ins : Instr} {f : Int → Int → Int} {a b : gIE} {p1 p2 : Nat} (ho : gOl2p ins f) (ha : gJ k C n pc p1 a) (hb' : gJ k C (n + 2) p1 p2 b) (hd : decode k.1 p2 = .ok (ins, 1)) : gJ k C n pc (p2 + 1) (o2p f a b) := by
  intro Γ ok L h r h' he
  simp only [o2p, Option.bind_eq_some_iff] at he
  obtain ⟨⟨x, h1⟩, e1, ⟨y, h2⟩, e2, he⟩ := he
  split at he
  · cases he
  rename_i hne
  simp only [Option.some.injEq, Prod.mk.injEq] at he
  obtain ⟨rfl, rfl⟩ := he
  obtain ⟨g1, K1⟩ := ha Γ ok L h x h1 e1
  obtain ⟨g2, K2⟩ := hb' Γ ok L h1 y h2 e2
  refine ⟨g1.tr g2, fun ws tys H locs ls rest hS hL hc hm kk => ?_⟩
  refine K1 ws tys H locs ls rest hS hL hc (gRm.le g2 hm) fun ws1 tys1 H1 locs1 w1 hS1 hx1 hv1 => ?_
  refine K2 ws1 tys1 H1 locs1 ls (w1 :: rest) hS1 (hL.ext hx1) (by rw [gCat_vL hv1]; omega) hm fun ws2 tys2 H2 locs2 w2 hS2 hx2 hv2 => ?_
  obtain ⟨i1, rfl, q1⟩ := hv1
  obtain ⟨i2, rfl, q2⟩ := hv2
  obtain ⟨D, adK, adV, A, ⟨p, l, e, R, s, m, args, below, meth, c, Q⟩, b, d⟩ := Γ
  obtain ⟨⟨hx, hb, hml, hown, hts⟩, -⟩ := ok
  exact ho hx hb hd i1 i2 (by rw [q2]; exact hne) fun i hi => kk ws2 tys2 H2 locs2 (.long i) hS2 (hx1.tr hx2) ⟨i, rfl, by rw [hi, q1, q2]⟩
theorem gJ_i2l {a : gIE} {p1 : Nat} (ha : gI k C n pc p1 a) (hd : decode k.1 p1 = .ok (.i2l, 1)) : gJ k C n pc (p1 + 1) a := by
  intro Γ ok L h x h1 e1
  obtain ⟨g1, K1⟩ := ha Γ ok L h x h1 e1
  refine ⟨g1, fun ws tys H locs ls rest hS hL hc hm kk => ?_⟩
  refine K1 ws tys H locs ls rest hS hL hc hm fun ws1 tys1 H1 locs1 w1 hS1 hx1 hv1 => ?_
  obtain ⟨i1, rfl, q1⟩ := hv1
  obtain ⟨D, adK, adV, A, ⟨p, l, e, R, s, m, args, below, meth, c, Q⟩, b, d⟩ := Γ
  obtain ⟨⟨hx, hb, hml, hown, hts⟩, -⟩ := ok
  exact lv_i2l hx hb hd rfl (kk ws1 tys1 H1 locs1 (.long i1.toInt64) hS1 hx1 ⟨_, rfl, by simp [q1]⟩)
theorem gI_l2i {a : gIE} {p1 : Nat} (ha : gJ k C n pc p1 a) (hd : decode k.1 p1 = .ok (.l2i, 1)) : gI k C n pc (p1 + 1) (o1 wr a) := by
  intro Γ ok L h x h' he
  simp only [o1, Option.bind_eq_some_iff, Option.some.injEq, Prod.mk.injEq] at he
  obtain ⟨⟨x, h1⟩, e1, rfl, rfl⟩ := he
  obtain ⟨g1, K1⟩ := ha Γ ok L h x h1 e1
  refine ⟨g1, fun ws tys H locs ls rest hS hL hc hm kk => ?_⟩
  refine K1 ws tys H locs ls rest hS hL hc hm fun ws1 tys1 H1 locs1 w1 hS1 hx1 hv1 => ?_
  obtain ⟨i1, rfl, q1⟩ := hv1
  obtain ⟨D, adK, adV, A, ⟨p, l, e, R, s, m, args, below, meth, c, Q⟩, b, d⟩ := Γ
  obtain ⟨⟨hx, hb, hml, hown, hts⟩, -⟩ := ok
  exact lv_l2i hx hb hd rfl (kk ws1 tys1 H1 locs1 (.int i1.toInt32) hS1 hx1 ⟨_, rfl, by simp [q1, wr]⟩)
theorem gI_i2b {a : gIE} {p1 : Nat} (ha : gI k C n pc p1 a) (hd : decode k.1 p1 = .ok (.i2b, 1)) : gI k C n pc (p1 + 1) (o1 zByte a) := by
  intro Γ ok L h x h' he
  simp only [o1, Option.bind_eq_some_iff, Option.some.injEq, Prod.mk.injEq] at he
  obtain ⟨⟨x, h1⟩, e1, rfl, rfl⟩ := he
  obtain ⟨g1, K1⟩ := ha Γ ok L h x h1 e1
  refine ⟨g1, fun ws tys H locs ls rest hS hL hc hm kk => ?_⟩
  refine K1 ws tys H locs ls rest hS hL hc hm fun ws1 tys1 H1 locs1 w1 hS1 hx1 hv1 => ?_
  obtain ⟨i1, rfl, q1⟩ := hv1
  obtain ⟨D, adK, adV, A, ⟨p, l, e, R, s, m, args, below, meth, c, Q⟩, b, d⟩ := Γ
  obtain ⟨⟨hx, hb, hml, hown, hts⟩, -⟩ := ok
  exact lv_i2b hx hb hd rfl (kk ws1 tys1 H1 locs1 (.int i1.toInt8.toInt32) hS1 hx1 ⟨_, rfl, by simp [q1, zByte]⟩)
end E2
/-- a field's number in a class's pool: the class it stands in, its place -/
def gFk (own : String) (ix ci kf : Nat) : Prop := ∃ (C : String) (T : u_T) (N : Nat), vwCl[ci]? = some (C, T, N) ∧ kf < N ∧ (Cond.fieldLink own ix (T kf).1 (T kf).2.1 (T kf).2.2.1 ∈ gTw ∨ ∃ host : String, Cond.fieldLinkNest own ix (T kf).1 (T kf).2.1 (T kf).2.2.1 host ∈ gNw)
theorem gFld_spec {ci kf : Nat} {h : gH} {r : Option Nat} {v : gAV} (he : gFld ci kf h r = some v) : ∃ (a : Nat) (fs : List gAV), r = some a ∧ h.2 a = some (oO ci fs) ∧ fs[kf]? = some v := by
  unfold gFld at he
  split at he
  · rename_i a
    split at he
    · rename_i c fs hq
      split at he
      · rename_i hc
        subst hc
        exact ⟨a, fs, rfl, hq, he⟩
      · cases he
    · cases he
  · cases he
theorem gHR_obj {adK : Nat → Nat} {tys : gTs} {ws : va_W} {h : gH} (H : gHR adK tys ws h) {a ci : Nat} {fs : List gAV} (ha : h.2 a = some (oO ci fs)) : ∃ (x : Nat) (gs : List Value), ws[a]? = some (x, .inr (ci, gs)) ∧ gs.length = fs.length ∧ ∀ (k : Nat) (v : gAV), fs[k]? = some v → ∃ w : Value, gs[k]? = some w ∧ gVr adK ws w v := by
  obtain ⟨x, e, h1, gs, rfl, h2, h3⟩ := H.2 a _ ha
  exact ⟨x, gs, h1, h2, h3⟩
theorem g_getf {k : gK} {C : gOrc} {Γ : gG} {ws : va_W} {tys : gTs} {h h0 : gH} {H : Heap} {locs : List Loc} {pc ix ci kf a : Nat} {fs : List gAV} {v : gAV} {ls : Array Slot} {rest : List Value} (ok : gOK k C Γ) (hS : gS Γ ws tys h H locs) (hf : gFk k.2.1 ix ci kf) (hd : decode k.1 pc = .ok (.getfield ix, 3)) (ha : h.2 a = some (oO ci fs)) (hv : fs[kf]? = some v) {x : Value} (hx0 : gVr Γ.2.1 ws x (vR (some a))) :
    ∃ w : Value, gVr Γ.2.1 ws w v ∧ (gW Γ H locs h0 (fun m => F0 m (pc + 3) ls (w :: rest)) → gW Γ H locs h0 (fun m => F0 m pc ls (x :: rest))) := by
  obtain ⟨D, adK, adV, A, ⟨p, l, e, R, s, m, args, below, meth, c, Q⟩, b, d⟩ := Γ
  obtain ⟨⟨hx, hb, hml, hown, hts⟩, hA, hfr, hlo, ⟨hN, hZ, hV⟩, hC, hIn⟩ := ok
  obtain ⟨hK, hP, hD, hSS, hR, -, -⟩ := hS
  obtain ⟨y, gs, g1, g2, g3⟩ := gHR_obj hR ha
  obtain ⟨y', e0, rfl, g4⟩ := hx0
  rw [g1] at g4
  cases g4
  obtain ⟨w, g5, g6⟩ := g3 kf v hv
  obtain ⟨Cn, T, N, hc, hk, hl⟩ := hf
  refine ⟨w, g6, fun kk => ?_⟩
  rcases hl with hl | ⟨host, hl⟩
  · exact va_get hx hb hts (gCl_ok hc).1 hown hK hP a g1 hc kf hk (hts _ hl) (fun _ h9 => h9) g5 hd kk
  · exact va_getN hx hb hts (gCl_ok hc).1 hown hK hP a g1 hc kf hk (va_Nw.use rfl (hN _ hl)) (fun _ h9 => h9) g5 hd kk
section E3
variable {k : gK} {C : gOrc} {n pc : Nat}
theorem gI_fld {o : gRE} {p1 ix ci kf : Nat} (ho : gR k C n pc p1 o) (hf : gFk k.2.1 ix ci kf) (hd : decode k.1 p1 = .ok (.getfield ix, 3)) : gI k C n pc (p1 + 3) (fI ci kf o) := by
  intro Γ ok L h z h' he
  simp only [fI, Option.bind_eq_some_iff] at he
  obtain ⟨⟨r, h1⟩, e1, he⟩ := he
  split at he
  · rename_i z0 hz
    simp only [Option.some.injEq, Prod.mk.injEq] at he
    obtain ⟨rfl, rfl⟩ := he
    obtain ⟨a, fs, rfl, ha, hv⟩ := gFld_spec hz
    obtain ⟨g1, K1⟩ := ho Γ ok L h _ h1 e1
    refine ⟨g1, fun ws tys H locs ls rest hS hL hc hm kk => ?_⟩
    refine K1 ws tys H locs ls rest hS hL hc hm fun ws1 tys1 H1 locs1 w1 hS1 hx1 hv1 => ?_
    obtain ⟨w, q1, q2⟩ := g_getf ok hS1 hf hd ha hv hv1
    exact q2 (kk ws1 tys1 H1 locs1 w hS1 hx1 q1)
  · cases he
theorem gJ_fld {o : gRE} {p1 ix ci kf : Nat} (ho : gR k C n pc p1 o) (hf : gFk k.2.1 ix ci kf) (hd : decode k.1 p1 = .ok (.getfield ix, 3)) : gJ k C n pc (p1 + 3) (fL ci kf o) := by
  intro Γ ok L h z h' he
  simp only [fL, Option.bind_eq_some_iff] at he
  obtain ⟨⟨r, h1⟩, e1, he⟩ := he
  split at he
  · rename_i z0 hz
    simp only [Option.some.injEq, Prod.mk.injEq] at he
    obtain ⟨rfl, rfl⟩ := he
    obtain ⟨a, fs, rfl, ha, hv⟩ := gFld_spec hz
    obtain ⟨g1, K1⟩ := ho Γ ok L h _ h1 e1
    refine ⟨g1, fun ws tys H locs ls rest hS hL hc hm kk => ?_⟩
    refine K1 ws tys H locs ls rest hS hL hc hm fun ws1 tys1 H1 locs1 w1 hS1 hx1 hv1 => ?_
    obtain ⟨w, q1, q2⟩ := g_getf ok hS1 hf hd ha hv hv1
    exact q2 (kk ws1 tys1 H1 locs1 w hS1 hx1 q1)
  · cases he
theorem gR_fld {o : gRE} {p1 ix ci kf : Nat} (ho : gR k C n pc p1 o) (hf : gFk k.2.1 ix ci kf) (hd : decode k.1 p1 = .ok (.getfield ix, 3)) : gR k C n pc (p1 + 3) (fR ci kf o) := by
  intro Γ ok L h z h' he
  simp only [fR, Option.bind_eq_some_iff] at he
  obtain ⟨⟨r, h1⟩, e1, he⟩ := he
  split at he
  · rename_i z0 hz
    simp only [Option.some.injEq, Prod.mk.injEq] at he
    obtain ⟨rfl, rfl⟩ := he
    obtain ⟨a, fs, rfl, ha, hv⟩ := gFld_spec hz
    obtain ⟨g1, K1⟩ := ho Γ ok L h _ h1 e1
    refine ⟨g1, fun ws tys H locs ls rest hS hL hc hm kk => ?_⟩
    refine K1 ws tys H locs ls rest hS hL hc hm fun ws1 tys1 H1 locs1 w1 hS1 hx1 hv1 => ?_
    obtain ⟨w, q1, q2⟩ := g_getf ok hS1 hf hd ha hv hv1
    exact q2 (kk ws1 tys1 H1 locs1 w hS1 hx1 q1)
  · cases he
end E3
