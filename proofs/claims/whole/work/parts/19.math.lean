theorem mx_s : Cond.static Lib.Math.max.name ∈ gTw := (gTw_4 119 (by decide +kernel) (by decide +kernel))
theorem mx_c : Cond.code Lib.Math.max.name Lib.Math.max.code 2 (some .int) ∈ gTw := (gTw_4 120 (by decide +kernel) (by decide +kernel))
theorem mn_s : Cond.static Lib.Math.min.name ∈ gTw := (gTw_3 145 (by decide +kernel) (by decide +kernel))
theorem mn_c : Cond.code Lib.Math.min.name Lib.Math.min.code 2 (some .int) ∈ gTw := (gTw_3 146 (by decide +kernel) (by decide +kernel))
theorem mx_i : Cond.initialized "java/lang/Math" ∈ gTw := (gTw_1 14 (by decide +kernel) (by decide +kernel))
theorem ma_RX1_109 : Cond.methodLink RX1 109 Lib.Math.max.name ∈ gTw := (gTw_5 12 (by decide +kernel) (by decide +kernel))
theorem ma_RX4_98 : Cond.methodLink RX4 98 Lib.Math.max.name ∈ gTw := (gTw_4 118 (by decide +kernel) (by decide +kernel))
theorem mi_RX5_35 : Cond.methodLink RX5 35 Lib.Math.min.name ∈ gTw := (gTw_6 60 (by decide +kernel) (by decide +kernel))
theorem ma_RX6_37 : Cond.methodLink RX6 37 Lib.Math.max.name ∈ gTw := (gTw_4 121 (by decide +kernel) (by decide +kernel))
theorem mi_RX9_47 : Cond.methodLink RX9 47 Lib.Math.min.name ∈ gTw := (gTw_3 144 (by decide +kernel) (by decide +kernel))
/-! printed by wip/whole/gen.py: Math.max, Math.min -/
section MM
variable {k : gK} {C : gOrc} {n pc p1 p2 : Nat}
theorem i32_max (x y : Int32) : (if x < y then y else x).toInt = zMax x.toInt y.toInt := by
  unfold zMax
  by_cases h : x < y
  · rw [if_pos h, if_pos (Int32.lt_iff_toInt_lt.mp h)]
  · rw [if_neg h, if_neg (fun z => h (Int32.lt_iff_toInt_lt.mpr z))]
theorem i32_min (x y : Int32) : (if y < x then y else x).toInt = zMin x.toInt y.toInt := by
  unfold zMin
  by_cases h : y < x
  · rw [if_pos h, if_pos (Int32.lt_iff_toInt_lt.mp h)]
  · rw [if_neg h, if_neg (fun z => h (Int32.lt_iff_toInt_lt.mpr z))]
theorem gI_max {ix : Nat} {a b : gIE} (hl : Cond.methodLink k.2.1 ix Lib.Math.max.name ∈ gTw) (hn : n ≤ 8) (ha : gI k C n pc p1 a) (hb' : gI k C (n + 1) p1 p2 b) (hd : decode k.1 p2 = .ok (.invokestatic ix, 3)) : gI k C n pc (p2 + 3) (o2 zMax a b) := by
  intro Γ ok L h r h' he
  simp only [o2, Option.bind_eq_some_iff, Option.some.injEq, Prod.mk.injEq] at he
  obtain ⟨⟨x, h1⟩, e1, ⟨y, h2⟩, e2, rfl, rfl⟩ := he
  obtain ⟨g1, K1⟩ := ha Γ ok L h x h1 e1
  obtain ⟨g2, K2⟩ := hb' Γ ok L h1 y h2 e2
  refine ⟨g1.tr g2, fun ws tys H locs ls rest hS hL hc hm kk => ?_⟩
  refine K1 ws tys H locs ls rest hS hL hc (gRm.le g2 hm) fun ws1 tys1 H1 locs1 w1 hS1 hx1 hv1 => ?_
  refine K2 ws1 tys1 H1 locs1 ls (w1 :: rest) hS1 (hL.ext hx1) (by rw [gCat_vI hv1]; omega) hm fun ws2 tys2 H2 locs2 w2 hS2 hx2 hv2 => ?_
  obtain ⟨i1, rfl, q1⟩ := hv1
  obtain ⟨i2, rfl, q2⟩ := hv2
  obtain ⟨D, adK, adV, A, ⟨p, l, e, R, s, m, args, below, meth, c, Q⟩, b, d⟩ := Γ
  obtain ⟨⟨hx, hb, hml, hown, hts⟩, hA, hfr, hlo, -⟩ := ok
  have hcc : (rest.map fun v => v.category).sum ≤ 8 := Nat.le_trans hc hn
  exact va_mmax hx hb (hml.trans hL.1.symm) hown (hts _ hl) (hts _ mx_s) (hts _ mx_i) (hts _ mx_c) (by omega) (by omega) hm.1 hm.2 hd (kk ws2 tys2 H2 locs2 _ hS2 (hx1.tr hx2) ⟨_, rfl, by rw [i32_max, q1, q2]⟩)
theorem gI_min {ix : Nat} {a b : gIE} (hl : Cond.methodLink k.2.1 ix Lib.Math.min.name ∈ gTw) (hn : n ≤ 8) (ha : gI k C n pc p1 a) (hb' : gI k C (n + 1) p1 p2 b) (hd : decode k.1 p2 = .ok (.invokestatic ix, 3)) : gI k C n pc (p2 + 3) (o2 zMin a b) := by
  intro Γ ok L h r h' he
  simp only [o2, Option.bind_eq_some_iff, Option.some.injEq, Prod.mk.injEq] at he
  obtain ⟨⟨x, h1⟩, e1, ⟨y, h2⟩, e2, rfl, rfl⟩ := he
  obtain ⟨g1, K1⟩ := ha Γ ok L h x h1 e1
  obtain ⟨g2, K2⟩ := hb' Γ ok L h1 y h2 e2
  refine ⟨g1.tr g2, fun ws tys H locs ls rest hS hL hc hm kk => ?_⟩
  refine K1 ws tys H locs ls rest hS hL hc (gRm.le g2 hm) fun ws1 tys1 H1 locs1 w1 hS1 hx1 hv1 => ?_
  refine K2 ws1 tys1 H1 locs1 ls (w1 :: rest) hS1 (hL.ext hx1) (by rw [gCat_vI hv1]; omega) hm fun ws2 tys2 H2 locs2 w2 hS2 hx2 hv2 => ?_
  obtain ⟨i1, rfl, q1⟩ := hv1
  obtain ⟨i2, rfl, q2⟩ := hv2
  obtain ⟨D, adK, adV, A, ⟨p, l, e, R, s, m, args, below, meth, c, Q⟩, b, d⟩ := Γ
  obtain ⟨⟨hx, hb, hml, hown, hts⟩, hA, hfr, hlo, -⟩ := ok
  have hcc : (rest.map fun v => v.category).sum ≤ 8 := Nat.le_trans hc hn
  exact va_mmin hx hb (hml.trans hL.1.symm) hown (hts _ hl) (hts _ mn_s) (hts _ mx_i) (hts _ mn_c) (by omega) (by omega) hm.1 hm.2 hd (kk ws2 tys2 H2 locs2 _ hS2 (hx1.tr hx2) ⟨_, rfl, by rw [i32_min, q1, q2]⟩)
end MM
