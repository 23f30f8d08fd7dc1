/-! CONDITIONS: code that goes to one place or another -/
def gC (k : gK) (C : gOrc) (n pc pT pF : Nat) (c : gCE) : Prop := ∀ Γ : gG, gOK k C Γ → ∀ (L : gLo) (h : gH) (a : Bool) (h' : gH), c L h = some (a, h') → gLe h h' ∧ ∀ (ws : va_W) (tys : gTs) (H : Heap) (locs : List Loc) (ls : Array Slot) (rest : List Value), gS Γ ws tys h H locs → gLR Γ k.2.2.1 ws ls L → gCat rest ≤ n → gRm Γ h' →
  (∀ (ws' : va_W) (tys' : gTs) (H' : Heap) (locs' : List Loc), gS Γ ws' tys' h' H' locs' → gExt ws ws' → gW Γ H' locs' h' (fun m => F0 m (if a = true then pT else pF) ls rest)) → gW Γ H locs h (fun m => F0 m pc ls rest)
theorem i32_eq (x y : Int32) : x = y ↔ x.toInt = y.toInt := ⟨fun h => by rw [h], fun h => Int32.toInt_inj.mp h⟩
section G1
variable {p : Program} {l : Launch} {e : Env} {R : Room} {s : State} {m : MethodId} {args : Array Value} {below : List Frame} {meth : Method} {c : Code} {H : Heap} {locs : List Loc} {cells slots : Nat} {Q : State → Prop} {cc : ByteArray} {pc : Nat} {ls : Array Slot} {rest : List Value}
theorem g_icmp {op : ClassFile.Cond} {off : Int} {tgt : Nat} {x y : Int32} (hx : p.tables.exec = Jvm.exec) (hb : c.code = cc) (hd : decode cc pc = .ok (.if_icmp op off, 3)) (ht : (pc : Int) + off = (tgt : Int)) (kk : W p l e R s m args below meth c H locs cells slots Q (F0 m (if cmB op x.toInt y.toInt = true then tgt else pc + 3) ls rest)) : W p l e R s m args below meth c H locs cells slots Q (F0 m pc ls (.int y :: .int x :: rest)) := by
  cases op with
  | eq => exact lv_icmp_eq hx hb hd ht (fun h => by rw [if_pos (by simp [cmB, h])] at kk; exact kk) (fun h => by rw [if_neg (by simp [cmB, ← i32_eq, h])] at kk; exact kk)
  | ne => exact lv_icmp_ne hx hb hd ht (fun h => by rw [if_pos (by simp [cmB, ← i32_eq, h])] at kk; exact kk) (fun h => by rw [if_neg (by simp [cmB, ← i32_eq] at h ⊢; exact h)] at kk; exact kk)
  | lt => exact lv_icmp_lt hx hb hd ht (fun h => by rw [if_pos (by simpa [cmB] using Int32.lt_iff_toInt_lt.mp h)] at kk; exact kk) (fun h => by rw [if_neg (by simp only [cmB, decide_eq_true_eq]; exact fun z => h (Int32.lt_iff_toInt_lt.mpr z))] at kk; exact kk)
  | ge => exact lv_icmp_ge hx hb hd ht (fun h => by rw [if_pos (by simpa [cmB] using Int32.le_iff_toInt_le.mp h)] at kk; exact kk) (fun h => by rw [if_neg (by simp only [cmB, decide_eq_true_eq]; exact fun z => h (Int32.le_iff_toInt_le.mpr z))] at kk; exact kk)
  | gt => exact lv_icmp_gt hx hb hd ht (fun h => by rw [if_pos (by simpa [cmB] using Int32.lt_iff_toInt_lt.mp h)] at kk; exact kk) (fun h => by rw [if_neg (by simp only [cmB, decide_eq_true_eq]; exact fun z => h (Int32.lt_iff_toInt_lt.mpr z))] at kk; exact kk)
  | le => exact lv_icmp_le hx hb hd ht (fun h => by rw [if_pos (by simpa [cmB] using Int32.le_iff_toInt_le.mp h)] at kk; exact kk) (fun h => by rw [if_neg (by simp only [cmB, decide_eq_true_eq]; exact fun z => h (Int32.le_iff_toInt_le.mpr z))] at kk; exact kk)
theorem g_ifz {op : ClassFile.Cond} {off : Int} {tgt : Nat} {x : Int32} (hx : p.tables.exec = Jvm.exec) (hb : c.code = cc) (hd : decode cc pc = .ok (.ifCond op off, 3)) (ht : (pc : Int) + off = (tgt : Int)) (kk : W p l e R s m args below meth c H locs cells slots Q (F0 m (if cmB op x.toInt 0 = true then tgt else pc + 3) ls rest)) : W p l e R s m args below meth c H locs cells slots Q (F0 m pc ls (.int x :: rest)) := by
  have e0 : (0 : Int32).toInt = 0 := rfl
  rw [← e0] at kk
  cases op with
  | eq => exact lv_if_eq hx hb hd ht (fun h => by rw [if_pos (by simp [cmB, h])] at kk; exact kk) (fun h => by rw [if_neg (by simp only [cmB, ← i32_eq, decide_eq_true_eq]; exact h)] at kk; exact kk)
  | ne => exact lv_if_ne hx hb hd ht (fun h => by rw [if_pos (by simp only [cmB, ← i32_eq, decide_eq_true_eq]; exact h)] at kk; exact kk) (fun h => by rw [if_neg (by simp only [cmB, ← i32_eq, decide_eq_true_eq]; exact fun z => z h)] at kk; exact kk)
  | lt => exact lv_if_lt hx hb hd ht (fun h => by rw [if_pos (by simpa [cmB] using Int32.lt_iff_toInt_lt.mp h)] at kk; exact kk) (fun h => by rw [if_neg (by simp only [cmB, decide_eq_true_eq]; exact fun z => h (Int32.lt_iff_toInt_lt.mpr z))] at kk; exact kk)
  | ge => exact lv_if_ge hx hb hd ht (fun h => by rw [if_pos (by simpa [cmB] using Int32.le_iff_toInt_le.mp h)] at kk; exact kk) (fun h => by rw [if_neg (by simp only [cmB, decide_eq_true_eq]; exact fun z => h (Int32.le_iff_toInt_le.mpr z))] at kk; exact kk)
  | gt => exact lv_if_gt hx hb hd ht (fun h => by rw [if_pos (by simpa [cmB] using Int32.lt_iff_toInt_lt.mp h)] at kk; exact kk) (fun h => by rw [if_neg (by simp only [cmB, decide_eq_true_eq]; exact fun z => h (Int32.lt_iff_toInt_lt.mpr z))] at kk; exact kk)
  | le => exact lv_if_le hx hb hd ht (fun h => by rw [if_pos (by simpa [cmB] using Int32.le_iff_toInt_le.mp h)] at kk; exact kk) (fun h => by rw [if_neg (by simp only [cmB, decide_eq_true_eq]; exact fun z => h (Int32.le_iff_toInt_le.mpr z))] at kk; exact kk)
end G1
def gNeg : ClassFile.Cond → ClassFile.Cond
  | .eq => .ne
  | .ne => .eq
  | .lt => .ge
  | .ge => .lt
  | .gt => .le
  | .le => .gt
theorem cmB_neg (op : ClassFile.Cond) (x y : Int) : cmB (gNeg op) x y = !cmB op x y := by
  cases op <;> simp [gNeg, cmB, decide_not] <;> by_cases h : x < y <;> by_cases h2 : y < x <;> simp_all <;> omega
section E8
variable {k : gK} {C : gOrc} {n pc p1 p2 pT pF : Nat}
theorem gC_cmpT {op : ClassFile.Cond} {a b : gIE} {off : Int} {tgt : Nat} (ha : gI k C n pc p1 a) (hb' : gI k C (n + 1) p1 p2 b) (hd : decode k.1 p2 = .ok (.if_icmp op off, 3)) (ht : (p2 : Int) + off = (tgt : Int)) : gC k C n pc tgt (p2 + 3) (cmC op a b) := by
  intro Γ ok L h r h' he
  simp only [cmC, Option.bind_eq_some_iff, Option.some.injEq, Prod.mk.injEq] at he
  obtain ⟨⟨x, h1⟩, e1, ⟨y, h2⟩, e2, rfl, rfl⟩ := he
  obtain ⟨g1, K1⟩ := ha Γ ok L h x h1 e1
  obtain ⟨g2, K2⟩ := hb' Γ ok L h1 y h2 e2
  refine ⟨g1.tr g2, fun ws tys H locs ls rest hS hL hc hm kk => ?_⟩
  refine K1 ws tys H locs ls rest hS hL hc (gRm.le g2 hm) fun ws1 tys1 H1 locs1 w1 hS1 hx1 hv1 => ?_
  refine K2 ws1 tys1 H1 locs1 ls (w1 :: rest) hS1 (hL.ext hx1) (by rw [gCat_vI hv1]; omega) hm fun ws2 tys2 H2 locs2 w2 hS2 hx2 hv2 => ?_
  obtain ⟨i1, rfl, q1⟩ := hv1
  obtain ⟨i2, rfl, q2⟩ := hv2
  have kk2 := kk ws2 tys2 H2 locs2 hS2 (hx1.tr hx2)
  obtain ⟨D, adK, adV, A, ⟨p, l, e, R, s, m, args, below, meth, c, Q⟩, b, d⟩ := Γ
  obtain ⟨⟨hx, hb, hml, hown, hts⟩, -⟩ := ok
  subst q1; subst q2
  exact g_icmp hx hb hd ht kk2
theorem gC_cg {c c' : gCE} (h : c' = c) (hc : gC k C n pc pT pF c) : gC k C n pc pT pF c' := by rw [h]; exact hc
theorem gC_not {c : gCE} (hc : gC k C n pc pT pF c) : gC k C n pc pF pT (notC c) := by
  intro Γ ok L h r h' he
  simp only [notC, Option.bind_eq_some_iff, Option.some.injEq, Prod.mk.injEq] at he
  obtain ⟨⟨x, h1⟩, e1, rfl, rfl⟩ := he
  obtain ⟨g1, K1⟩ := hc Γ ok L h x h1 e1
  refine ⟨g1, fun ws tys H locs ls rest hS hL hc hm kk => ?_⟩
  refine K1 ws tys H locs ls rest hS hL hc hm fun ws1 tys1 H1 locs1 hS1 hx1 => ?_
  have := kk ws1 tys1 H1 locs1 hS1 hx1
  cases x <;> exact this
theorem gC_cmpF {op : ClassFile.Cond} {a b : gIE} {off : Int} {tgt : Nat} (ha : gI k C n pc p1 a) (hb' : gI k C (n + 1) p1 p2 b) (hd : decode k.1 p2 = .ok (.if_icmp (gNeg op) off, 3)) (ht : (p2 : Int) + off = (tgt : Int)) : gC k C n pc (p2 + 3) tgt (cmC op a b) := by
  have h := gC_not (gC_cmpT ha hb' hd ht)
  have e : notC (cmC (gNeg op) a b) = cmC op a b := by
    funext L h
    simp only [notC, cmC]
    cases a L h with
    | none => rfl
    | some x =>
      simp only [Option.bind_some]
      cases b L x.2 with
      | none => rfl
      | some y => simp [cmB_neg]
  rw [e] at h
  exact h
theorem gC_zT {op : ClassFile.Cond} {a : gIE} {off : Int} {tgt : Nat} (ha : gI k C n pc p1 a) (hd : decode k.1 p1 = .ok (.ifCond op off, 3)) (ht : (p1 : Int) + off = (tgt : Int)) : gC k C n pc tgt (p1 + 3) (czC op a) := by
  intro Γ ok L h r h' he
  simp only [czC, Option.bind_eq_some_iff, Option.some.injEq, Prod.mk.injEq] at he
  obtain ⟨⟨x, h1⟩, e1, rfl, rfl⟩ := he
  obtain ⟨g1, K1⟩ := ha Γ ok L h x h1 e1
  refine ⟨g1, fun ws tys H locs ls rest hS hL hc hm kk => ?_⟩
  refine K1 ws tys H locs ls rest hS hL hc hm fun ws1 tys1 H1 locs1 w1 hS1 hx1 hv1 => ?_
  obtain ⟨i1, rfl, q1⟩ := hv1
  have kk2 := kk ws1 tys1 H1 locs1 hS1 hx1
  obtain ⟨D, adK, adV, A, ⟨p, l, e, R, s, m, args, below, meth, c, Q⟩, b, d⟩ := Γ
  obtain ⟨⟨hx, hb, hml, hown, hts⟩, -⟩ := ok
  subst q1
  exact g_ifz hx hb hd ht kk2
theorem gC_zF {op : ClassFile.Cond} {a : gIE} {off : Int} {tgt : Nat} (ha : gI k C n pc p1 a) (hd : decode k.1 p1 = .ok (.ifCond (gNeg op) off, 3)) (ht : (p1 : Int) + off = (tgt : Int)) : gC k C n pc (p1 + 3) tgt (czC op a) := by
  have h := gC_not (gC_zT ha hd ht)
  have e : notC (czC (gNeg op) a) = czC op a := by
    funext L h
    simp only [notC, czC]
    cases a L h with
    | none => rfl
    | some x => simp [cmB_neg]
  rw [e] at h
  exact h
theorem gC_bF {c : gCE} {off : Int} {tgt : Nat} (ha : gB k C n pc p1 c) (hd : decode k.1 p1 = .ok (.ifCond .eq off, 3)) (ht : (p1 : Int) + off = (tgt : Int)) : gC k C n pc (p1 + 3) tgt c := by
  intro Γ ok L h r h' he
  obtain ⟨g1, K1⟩ := ha Γ ok L h r h' he
  refine ⟨g1, fun ws tys H locs ls rest hS hL hc hm kk => ?_⟩
  refine K1 ws tys H locs ls rest hS hL hc hm fun ws1 tys1 H1 locs1 w1 hS1 hx1 hv1 => ?_
  obtain ⟨i1, rfl, q1⟩ := hv1
  have kk2 := kk ws1 tys1 H1 locs1 hS1 hx1
  obtain ⟨D, adK, adV, A, ⟨p, l, e, R, s, m, args, below, meth, c, Q⟩, b, d⟩ := Γ
  obtain ⟨⟨hx, hb, hml, hown, hts⟩, -⟩ := ok
  refine g_ifz hx hb hd ht ?_
  rw [q1]
  cases r <;> exact kk2
theorem gC_bT {c : gCE} {off : Int} {tgt : Nat} (ha : gB k C n pc p1 c) (hd : decode k.1 p1 = .ok (.ifCond .ne off, 3)) (ht : (p1 : Int) + off = (tgt : Int)) : gC k C n pc tgt (p1 + 3) c := by
  intro Γ ok L h r h' he
  obtain ⟨g1, K1⟩ := ha Γ ok L h r h' he
  refine ⟨g1, fun ws tys H locs ls rest hS hL hc hm kk => ?_⟩
  refine K1 ws tys H locs ls rest hS hL hc hm fun ws1 tys1 H1 locs1 w1 hS1 hx1 hv1 => ?_
  obtain ⟨i1, rfl, q1⟩ := hv1
  have kk2 := kk ws1 tys1 H1 locs1 hS1 hx1
  obtain ⟨D, adK, adV, A, ⟨p, l, e, R, s, m, args, below, meth, c, Q⟩, b, d⟩ := Γ
  obtain ⟨⟨hx, hb, hml, hown, hts⟩, -⟩ := ok
  refine g_ifz hx hb hd ht ?_
  rw [q1]
  cases r <;> exact kk2
/-- null: ifnull goes to tgt -/
theorem gC_nT {a : gRE} {off : Int} {tgt : Nat} (ha : gR k C n pc p1 a) (hd : decode k.1 p1 = .ok (.ifnull off, 3)) (ht : (p1 : Int) + off = (tgt : Int)) : gC k C n pc tgt (p1 + 3) (cnC a) := by
  intro Γ ok L h r h' he
  simp only [cnC, Option.bind_eq_some_iff, Option.some.injEq, Prod.mk.injEq] at he
  obtain ⟨⟨x, h1⟩, e1, rfl, rfl⟩ := he
  obtain ⟨g1, K1⟩ := ha Γ ok L h x h1 e1
  refine ⟨g1, fun ws tys H locs ls rest hS hL hc hm kk => ?_⟩
  refine K1 ws tys H locs ls rest hS hL hc hm fun ws1 tys1 H1 locs1 w1 hS1 hx1 hv1 => ?_
  have kk2 := kk ws1 tys1 H1 locs1 hS1 hx1
  obtain ⟨D, adK, adV, A, ⟨p, l, e, R, s, m, args, below, meth, c, Q⟩, b, d⟩ := Γ
  obtain ⟨⟨hx, hb, hml, hown, hts⟩, -⟩ := ok
  match x, hv1, kk2 with
  | none, hv1, kk2 =>
    have h3 : w1 = .null := hv1
    subst h3
    exact lv_ifnullN hx hb hd ht kk2
  | some y, hv1, kk2 =>
    obtain ⟨z, e0, rfl, -⟩ := hv1
    exact lv_ifnull hx hb hd kk2
theorem gC_nF {a : gRE} {off : Int} {tgt : Nat} (ha : gR k C n pc p1 a) (hd : decode k.1 p1 = .ok (.ifnonnull off, 3)) (ht : (p1 : Int) + off = (tgt : Int)) : gC k C n pc (p1 + 3) tgt (cnC a) := by
  intro Γ ok L h r h' he
  simp only [cnC, Option.bind_eq_some_iff, Option.some.injEq, Prod.mk.injEq] at he
  obtain ⟨⟨x, h1⟩, e1, rfl, rfl⟩ := he
  obtain ⟨g1, K1⟩ := ha Γ ok L h x h1 e1
  refine ⟨g1, fun ws tys H locs ls rest hS hL hc hm kk => ?_⟩
  refine K1 ws tys H locs ls rest hS hL hc hm fun ws1 tys1 H1 locs1 w1 hS1 hx1 hv1 => ?_
  have kk2 := kk ws1 tys1 H1 locs1 hS1 hx1
  obtain ⟨D, adK, adV, A, ⟨p, l, e, R, s, m, args, below, meth, c, Q⟩, b, d⟩ := Γ
  obtain ⟨⟨hx, hb, hml, hown, hts⟩, -⟩ := ok
  match x, hv1, kk2 with
  | none, hv1, kk2 =>
    have h3 : w1 = .null := hv1
    subst h3
    exact lv_ifnonnullN hx hb hd kk2
  | some y, hv1, kk2 =>
    obtain ⟨z, e0, rfl, -⟩ := hv1
    exact lv_ifnonnull hx hb hd ht kk2
theorem gC_and {c d : gCE} (hc0 : gC k C n pc p1 pF c) (hd0 : gC k C n p1 pT pF d) : gC k C n pc pT pF (andC c d) := by
  intro Γ ok L h r h' he
  simp only [andC, Option.bind_eq_some_iff] at he
  obtain ⟨⟨x, h1⟩, e1, he⟩ := he
  obtain ⟨g1, K1⟩ := hc0 Γ ok L h x h1 e1
  cases x with
  | true =>
    obtain ⟨g2, K2⟩ := hd0 Γ ok L h1 r h' he
    refine ⟨g1.tr g2, fun ws tys H locs ls rest hS hL hc hm kk => ?_⟩
    refine K1 ws tys H locs ls rest hS hL hc (gRm.le g2 hm) fun ws1 tys1 H1 locs1 hS1 hx1 => ?_
    exact K2 ws1 tys1 H1 locs1 ls rest hS1 (hL.ext hx1) hc hm fun ws2 tys2 H2 locs2 hS2 hx2 => kk ws2 tys2 H2 locs2 hS2 (hx1.tr hx2)
  | false =>
    cases he
    exact ⟨g1, fun ws tys H locs ls rest hS hL hc hm kk => K1 ws tys H locs ls rest hS hL hc hm kk⟩
theorem gC_or {c d : gCE} (hc0 : gC k C n pc pT p1 c) (hd0 : gC k C n p1 pT pF d) : gC k C n pc pT pF (orC c d) := by
  intro Γ ok L h r h' he
  simp only [orC, Option.bind_eq_some_iff] at he
  obtain ⟨⟨x, h1⟩, e1, he⟩ := he
  obtain ⟨g1, K1⟩ := hc0 Γ ok L h x h1 e1
  cases x with
  | false =>
    obtain ⟨g2, K2⟩ := hd0 Γ ok L h1 r h' he
    refine ⟨g1.tr g2, fun ws tys H locs ls rest hS hL hc hm kk => ?_⟩
    refine K1 ws tys H locs ls rest hS hL hc (gRm.le g2 hm) fun ws1 tys1 H1 locs1 hS1 hx1 => ?_
    exact K2 ws1 tys1 H1 locs1 ls rest hS1 (hL.ext hx1) hc hm fun ws2 tys2 H2 locs2 hS2 hx2 => kk ws2 tys2 H2 locs2 hS2 (hx1.tr hx2)
  | true =>
    cases he
    exact ⟨g1, fun ws tys H locs ls rest hS hL hc hm kk => K1 ws tys H locs ls rest hS hL hc hm kk⟩
/-- longs: lcmp and a test of its sign -/
def zlC (op : ClassFile.Cond) (a b : gIE) : gCE := cmC op a b
theorem g_lcmp (op : ClassFile.Cond) (x y : Int64) : cmB op (lg_cmp x y).toInt 0 = cmB op x.toInt y.toInt := by
  by_cases h1 : y < x
  · have h1' := Int64.lt_iff_toInt_lt.mp h1
    have e1 : (lg_cmp x y).toInt = 1 := by simp [lg_cmp, h1]
    rw [e1]
    cases op <;> simp [cmB] <;> omega
  · have h1' : ¬ y.toInt < x.toInt := fun z => h1 (Int64.lt_iff_toInt_lt.mpr z)
    by_cases h2 : x = y
    · subst h2
      have e1 : (lg_cmp x x).toInt = 0 := by simp [lg_cmp]
      rw [e1]
      cases op <;> simp [cmB]
    · have h2' : ¬ x.toInt = y.toInt := fun z => h2 (Int64.toInt_inj.mp z)
      have e1 : (lg_cmp x y).toInt = -1 := by simp [lg_cmp, h1, h2]
      rw [e1]
      cases op <;> simp [cmB] <;> omega
theorem gC_lT {op : ClassFile.Cond} {a b : gIE} {off : Int} {tgt : Nat} (ha : gJ k C n pc p1 a) (hb' : gJ k C (n + 2) p1 p2 b) (hd0 : decode k.1 p2 = .ok (.lcmp, 1)) (hd : decode k.1 (p2 + 1) = .ok (.ifCond op off, 3)) (ht : ((p2 + 1 : Nat) : Int) + off = (tgt : Int)) : gC k C n pc tgt (p2 + 1 + 3) (zlC op a b) := by
  intro Γ ok L h r h' he
  simp only [zlC, cmC, Option.bind_eq_some_iff, Option.some.injEq, Prod.mk.injEq] at he
  obtain ⟨⟨x, h1⟩, e1, ⟨y, h2⟩, e2, rfl, rfl⟩ := he
  obtain ⟨g1, K1⟩ := ha Γ ok L h x h1 e1
  obtain ⟨g2, K2⟩ := hb' Γ ok L h1 y h2 e2
  refine ⟨g1.tr g2, fun ws tys H locs ls rest hS hL hc hm kk => ?_⟩
  refine K1 ws tys H locs ls rest hS hL hc (gRm.le g2 hm) fun ws1 tys1 H1 locs1 w1 hS1 hx1 hv1 => ?_
  refine K2 ws1 tys1 H1 locs1 ls (w1 :: rest) hS1 (hL.ext hx1) (by rw [gCat_vL hv1]; omega) hm fun ws2 tys2 H2 locs2 w2 hS2 hx2 hv2 => ?_
  obtain ⟨i1, rfl, q1⟩ := hv1
  obtain ⟨i2, rfl, q2⟩ := hv2
  have kk2 := kk ws2 tys2 H2 locs2 hS2 (hx1.tr hx2)
  obtain ⟨D, adK, adV, A, ⟨p, l, e, R, s, m, args, below, meth, c, Q⟩, b, d⟩ := Γ
  obtain ⟨⟨hx, hb, hml, hown, hts⟩, -⟩ := ok
  subst q1; subst q2
  refine W.lcmp hx hb hd0 (g_ifz hx hb hd ht ?_)
  rw [g_lcmp]
  exact kk2
theorem gC_lF {op : ClassFile.Cond} {a b : gIE} {off : Int} {tgt : Nat} (ha : gJ k C n pc p1 a) (hb' : gJ k C (n + 2) p1 p2 b) (hd0 : decode k.1 p2 = .ok (.lcmp, 1)) (hd : decode k.1 (p2 + 1) = .ok (.ifCond (gNeg op) off, 3)) (ht : ((p2 + 1 : Nat) : Int) + off = (tgt : Int)) : gC k C n pc (p2 + 1 + 3) tgt (zlC op a b) := by
  have h := gC_not (gC_lT ha hb' hd0 hd ht)
  have e : notC (zlC (gNeg op) a b) = zlC op a b := by
    funext L h
    simp only [notC, zlC, cmC]
    cases a L h with
    | none => rfl
    | some x =>
      simp only [Option.bind_some]
      cases b L x.2 with
      | none => rfl
      | some y => simp [cmB_neg]
  rw [e] at h
  exact h
/-- an exit that is a goto -/
theorem gC_jT {c : gCE} {off : Int} {q : Nat} (hc0 : gC k C n pc p1 pF c) (hd : decode k.1 p1 = .ok (.goto off, 3)) (ht : (p1 : Int) + off = (q : Int)) : gC k C n pc q pF c := by
  intro Γ ok L h r h' he
  obtain ⟨g1, K1⟩ := hc0 Γ ok L h r h' he
  refine ⟨g1, fun ws tys H locs ls rest hS hL hc hm kk => ?_⟩
  refine K1 ws tys H locs ls rest hS hL hc hm fun ws1 tys1 H1 locs1 hS1 hx1 => ?_
  have kk2 := kk ws1 tys1 H1 locs1 hS1 hx1
  obtain ⟨D, adK, adV, A, ⟨p, l, e, R, s, m, args, below, meth, c, Q⟩, b, d⟩ := Γ
  obtain ⟨⟨hx, hb, hml, hown, hts⟩, -⟩ := ok
  cases r with
  | true => exact lv_goto hx hb hd ht kk2
  | false => exact kk2
theorem gC_jF {c : gCE} {off : Int} {q : Nat} (hc0 : gC k C n pc pT p1 c) (hd : decode k.1 p1 = .ok (.goto off, 3)) (ht : (p1 : Int) + off = (q : Int)) : gC k C n pc pT q c := by
  intro Γ ok L h r h' he
  obtain ⟨g1, K1⟩ := hc0 Γ ok L h r h' he
  refine ⟨g1, fun ws tys H locs ls rest hS hL hc hm kk => ?_⟩
  refine K1 ws tys H locs ls rest hS hL hc hm fun ws1 tys1 H1 locs1 hS1 hx1 => ?_
  have kk2 := kk ws1 tys1 H1 locs1 hS1 hx1
  obtain ⟨D, adK, adV, A, ⟨p, l, e, R, s, m, args, below, meth, c, Q⟩, b, d⟩ := Γ
  obtain ⟨⟨hx, hb, hml, hown, hts⟩, -⟩ := ok
  cases r with
  | false => exact lv_goto hx hb hd ht kk2
  | true => exact kk2
/-- one of two values -/
theorem gEv_ite {α : Type} {inj : α → gAV} {c : gCE} {a b : gLo → gH → Option (α × gH)} {off : Int} {pE : Nat} (hc0 : gC k C n pc pT pF c) (ha : gEvl inj k C n pT p1 a) (hd : decode k.1 p1 = .ok (.goto off, 3)) (ht : (p1 : Int) + off = (pE : Int)) (hb' : gEvl inj k C n pF pE b) : gEvl inj k C n pc pE (gIte c a b) := by
  intro Γ ok L h r h' he
  simp only [gIte, Option.bind_eq_some_iff] at he
  obtain ⟨⟨x, h1⟩, e1, he⟩ := he
  obtain ⟨g1, K1⟩ := hc0 Γ ok L h x h1 e1
  cases x with
  | true =>
    obtain ⟨g2, K2⟩ := ha Γ ok L h1 r h' he
    refine ⟨g1.tr g2, fun ws tys H locs ls rest hS hL hc hm kk => ?_⟩
    refine K1 ws tys H locs ls rest hS hL hc (gRm.le g2 hm) fun ws1 tys1 H1 locs1 hS1 hx1 => ?_
    refine K2 ws1 tys1 H1 locs1 ls rest hS1 (hL.ext hx1) hc hm fun ws2 tys2 H2 locs2 w hS2 hx2 hv => ?_
    have kk2 := kk ws2 tys2 H2 locs2 w hS2 (hx1.tr hx2) hv
    obtain ⟨D, adK, adV, A, ⟨p, l, e, R, s, m, args, below, meth, c, Q⟩, b, d⟩ := Γ
    obtain ⟨⟨hx, hb, hml, hown, hts⟩, -⟩ := ok
    exact lv_goto hx hb hd ht kk2
  | false =>
    obtain ⟨g2, K2⟩ := hb' Γ ok L h1 r h' he
    refine ⟨g1.tr g2, fun ws tys H locs ls rest hS hL hc hm kk => ?_⟩
    refine K1 ws tys H locs ls rest hS hL hc (gRm.le g2 hm) fun ws1 tys1 H1 locs1 hS1 hx1 => ?_
    exact K2 ws1 tys1 H1 locs1 ls rest hS1 (hL.ext hx1) hc hm fun ws2 tys2 H2 locs2 w hS2 hx2 hv => kk ws2 tys2 H2 locs2 w hS2 (hx1.tr hx2) hv
theorem gB_k {b : Bool} (hd : decode k.1 pc = .ok (.iconst (if b = true then 1 else 0), 1)) : gB k C n pc (pc + 1) (kB b) := by
  intro Γ ok L h a h' he
  simp only [kB, Option.some.injEq, Prod.mk.injEq] at he
  obtain ⟨rfl, rfl⟩ := he
  refine ⟨gLe.rf, fun ws tys H locs ls rest hS hL hc hm kk => ?_⟩
  obtain ⟨D, adK, adV, A, ⟨p, l, e, R, s, m, args, below, meth, c, Q⟩, b0, d⟩ := Γ
  obtain ⟨⟨hx, hb, hml, hown, hts⟩, -⟩ := ok
  exact lv_iconst hx hb hd rfl (kk ws tys H locs _ hS gExt.rf ⟨_, rfl, by cases b <;> rfl⟩)
/-- a condition's value, as javac lays it -/
theorem gB_c {c : gCE} {off : Int} {pE : Nat} (hc0 : gC k C n pc pT pF c) (hd1 : decode k.1 pT = .ok (.iconst 1, 1)) (hd : decode k.1 (pT + 1) = .ok (.goto off, 3)) (ht : ((pT + 1 : Nat) : Int) + off = (pE : Int)) (hd0 : decode k.1 pF = .ok (.iconst 0, 1)) (hE : pF + 1 = pE) : gB k C n pc pE c := by
  subst hE
  have h := gEv_ite (inj := vB) (a := kB true) (b := kB false) hc0 (gB_k hd1) hd ht (gB_k hd0)
  have e : gIte c (kB true) (kB false) = c := by
    funext L h
    simp only [gIte, kB]
    cases c L h with
    | none => rfl
    | some x => obtain ⟨x, h1⟩ := x; cases x <;> rfl
  rw [e] at h
  exact h
end E8
