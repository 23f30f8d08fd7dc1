/-! A NEW GLASS OF THE REFERENCE -/
def nwL : List (Nat × Nat × Int) := [(8, 2, 7), (9, 0, 7), (10, 0, 7), (11, 0, 7), (12, 0, 42), (13, 0, 7), (14, 0, 7), (15, 0, 7), (16, 0, 21), (17, 0, 21), (18, 3, 7), (19, 0, 10), (20, 0, 10), (21, 0, 10), (22, 0, 6), (23, 0, 48), (24, 0, 8), (25, 0, 8), (26, 0, 8)]
def nwSt : List (Nat × Nat × Int) → gSt
  | [] => rtV
  | t :: l => seS (pfR 12 t.1 (lR 0) (naR t.2.1 (kI t.2.2))) (nwSt l)
def nwFs : Nat → List (Nat × Nat × Int) → List gAV → List gAV
  | _, [], fs => fs
  | b, t :: l, fs => nwFs (b + 1) l (fs.set t.1 (vR (some b)))
def nwSm : List (Nat × Nat × Int) → Nat
  | [] => 0
  | t :: l => t.2.2.toNat + nwSm l
theorem nw_body (C : gOrc) : bX12_init C = seS obS (nwSt nwL) := by
  unfold bX12_init
  simp only [nwSt, nwL]
theorem nw_chk : ∀ t ∈ nwL, t.1 < gF_12.length ∧ 0 ≤ t.2.2 ∧ t.2.2 ≤ 10000 := by decide
theorem nw_run {r n : Nat} : ∀ (l : List (Nat × Nat × Int)) (h : gH) (fs : List gAV), h.2 r = some (oO 12 fs) → r < h.1.1 → (∀ t ∈ l, t.1 < fs.length ∧ 0 ≤ t.2.2 ∧ t.2.2 ≤ 10000) → ∃ h' : gH, nwSt l n [some (vR (some r))] h = some (some (3, none), [some (vR (some r))], h') ∧ h'.1 = (h.1.1 + l.length, h.1.2.1 + l.length, h.1.2.2 + nwSm l) ∧ h'.2 r = some (oO 12 (nwFs h.1.1 l fs)) ∧ (∀ a, a ≠ r → a < h.1.1 → h'.2 a = h.2 a) ∧ (∀ (i : Nat) (t : Nat × Nat × Int), l[i]? = some t → h'.2 (h.1.1 + i) = some (oA t.2.1 t.2.2.toNat (fun _ => 0)))
  | [], h, fs, h0, h1, h2 => ⟨h, rfl, rfl, h0, fun _ _ _ => rfl, fun i t q => by simp at q⟩
  | t :: l, h, fs, h0, h1, h2 => by
    obtain ⟨t1, t0, t2⟩ := h2 t (List.mem_cons_self ..)
    obtain ⟨h3, e3⟩ : ∃ h3 : gH, h3 = ((h.1.1 + 1, h.1.2.1 + 1, h.1.2.2 + t.2.2.toNat), gUp (gUp h.2 h.1.1 (some (oA t.2.1 t.2.2.toNat (fun _ => 0)))) r (some (oO 12 (fs.set t.1 (vR (some h.1.1)))))) := ⟨_, rfl⟩
    have c0 : lR 0 [some (vR (some r))] h = some (some r, h) := rfl
    have c1 : naR t.2.1 (kI t.2.2) [some (vR (some r))] h = some (some h.1.1, gPush h t.2.2.toNat (oA t.2.1 t.2.2.toNat (fun _ => 0))) := by
      show (if 0 ≤ t.2.2 ∧ t.2.2 ≤ 10000 then some (some h.1.1, gPush h t.2.2.toNat (oA t.2.1 t.2.2.toNat (fun _ => 0))) else none) = _
      rw [if_pos ⟨t0, t2⟩]
    have c2 : (gPush h t.2.2.toNat (oA t.2.1 t.2.2.toNat (fun _ => 0))).2 r = some (oO 12 fs) := by
      show (if r = h.1.1 then some (oA t.2.1 t.2.2.toNat (fun _ => 0)) else h.2 r) = _
      rw [if_neg (by omega)]
      exact h0
    have c3 : gPut 12 t.1 (vR (some h.1.1)) (gPush h t.2.2.toNat (oA t.2.1 t.2.2.toNat (fun _ => 0))) (some r) = some h3 := by
      simp only [gPut, c2]
      rw [if_pos ⟨trivial, t1⟩]
      subst e3
      rfl
    have run : pfR 12 t.1 (lR 0) (naR t.2.1 (kI t.2.2)) n [some (vR (some r))] h = some (none, [some (vR (some r))], h3) := by
      simp only [pfR, c0, c1, Option.bind_some, c3]
    have p1 : h3.1 = (h.1.1 + 1, h.1.2.1 + 1, h.1.2.2 + t.2.2.toNat) := by subst e3; rfl
    have p11 : h3.1.1 = h.1.1 + 1 := congrArg Prod.fst p1
    have p2 : ∀ a, h3.2 a = if a = r then some (oO 12 (fs.set t.1 (vR (some h.1.1)))) else if a = h.1.1 then some (oA t.2.1 t.2.2.toNat (fun _ => 0)) else h.2 a := fun a => by subst e3; rfl
    clear e3
    obtain ⟨h', r1, r2, r3, r4, r5⟩ := nw_run l h3 (fs.set t.1 (vR (some h.1.1))) (by rw [p2, if_pos rfl]) (by omega) (fun u hu => by rw [List.length_set]; exact h2 u (List.mem_cons_of_mem _ hu))
    rw [p11] at r3 r4 r5
    refine ⟨h', ?_, ?_, r3, fun a a1 a2 => ?_, fun i u hu => ?_⟩
    · have e : nwSt (t :: l) = seS (pfR 12 t.1 (lR 0) (naR t.2.1 (kI t.2.2))) (nwSt l) := rfl
      rw [e]
      simp only [seS, run, Option.bind_some]
      exact r1
    · rw [r2, p1]
      refine Prod.ext ?_ (Prod.ext ?_ ?_)
      · show h.1.1 + 1 + l.length = h.1.1 + (l.length + 1)
        omega
      · show h.1.2.1 + 1 + l.length = h.1.2.1 + (l.length + 1)
        omega
      · show h.1.2.2 + t.2.2.toNat + nwSm l = h.1.2.2 + (t.2.2.toNat + nwSm l)
        omega
    · rw [r4 a a1 (by omega), p2, if_neg a1, if_neg (by omega)]
    · cases i with
      | zero =>
        have e : t = u := by simpa using hu
        subst e
        rw [Nat.add_zero, r4 h.1.1 (by omega) (by omega), p2, if_neg (by omega), if_pos rfl]
      | succ i =>
        have q := r5 i u (by simpa using hu)
        rw [show h.1.1 + (i + 1) = h.1.1 + 1 + i by omega]
        exact q
theorem gOr_run {n d m : Nat} {mi : gMi} {b : gOrc → gSt} {as : List gAV} {h h' : gH} {L' : gLo} {v : Option gAV} (h1 : gMt[m]? = some mi) (h2 : ∀ C, (gBods C)[m]? = some (b C)) (h3 : m ≠ 305) (h4 : m ≠ 306) (hrc : gRcb mi.2.2.2.2 as h = true) (hl : (gLay as).length ≤ mi.2.2.1) (e : b (gOr n d) n (gEnt mi.2.2.1 as) h = some (some (3, v), L', h')) (hv : gRtB mi.2.2.2.1 v = true) (l : gLe h h') : gOr n (d + 1) m as h = some (v, h') := by
  rw [gOr_eq h1 h2 h3 h4, if_pos hrc, gRn, if_pos hl, e]
  exact if_pos ⟨hv, l⟩
theorem mArr_i {o : Option gOb} {a ty off N : Nat} {f g : Int → Int} (hty : ty < 4) (h : o = some (oA ty N g)) (hg : ∀ i : Int, 0 ≤ i → i < N → g i = f i) : mArr o a (ty + 2, off, N) f := by
  unfold mArr
  rw [if_neg (by show ¬ ty + 2 = 12; omega), if_neg (by show ¬ ty + 2 = 13; omega), if_neg (by show ¬ ty + 2 = 14; omega)]
  exact ⟨g, h, hg⟩
def cN (c : cT) : cT := (c.1 + 20, c.2.1 + 20, c.2.2 + 275)
theorem nwFs_e {r : Nat} : nwFs (r + 1) nwL gF_12 = [vI 0, vI 0, vI 0, vI 0, vI 0, vI 0, vI 0, vI 0, vR (some (r + 1)), vR (some (r + 1 + 1)), vR (some (r + 1 + 1 + 1)), vR (some (r + 1 + 1 + 1 + 1)), vR (some (r + 1 + 1 + 1 + 1 + 1)), vR (some (r + 1 + 1 + 1 + 1 + 1 + 1)), vR (some (r + 1 + 1 + 1 + 1 + 1 + 1 + 1)), vR (some (r + 1 + 1 + 1 + 1 + 1 + 1 + 1 + 1)), vR (some (r + 1 + 1 + 1 + 1 + 1 + 1 + 1 + 1 + 1)), vR (some (r + 1 + 1 + 1 + 1 + 1 + 1 + 1 + 1 + 1 + 1)), vR (some (r + 1 + 1 + 1 + 1 + 1 + 1 + 1 + 1 + 1 + 1 + 1)), vR (some (r + 1 + 1 + 1 + 1 + 1 + 1 + 1 + 1 + 1 + 1 + 1 + 1)), vR (some (r + 1 + 1 + 1 + 1 + 1 + 1 + 1 + 1 + 1 + 1 + 1 + 1 + 1)), vR (some (r + 1 + 1 + 1 + 1 + 1 + 1 + 1 + 1 + 1 + 1 + 1 + 1 + 1 + 1)), vR (some (r + 1 + 1 + 1 + 1 + 1 + 1 + 1 + 1 + 1 + 1 + 1 + 1 + 1 + 1 + 1)), vR (some (r + 1 + 1 + 1 + 1 + 1 + 1 + 1 + 1 + 1 + 1 + 1 + 1 + 1 + 1 + 1 + 1)), vR (some (r + 1 + 1 + 1 + 1 + 1 + 1 + 1 + 1 + 1 + 1 + 1 + 1 + 1 + 1 + 1 + 1 + 1)), vR (some (r + 1 + 1 + 1 + 1 + 1 + 1 + 1 + 1 + 1 + 1 + 1 + 1 + 1 + 1 + 1 + 1 + 1 + 1)), vR (some (r + 1 + 1 + 1 + 1 + 1 + 1 + 1 + 1 + 1 + 1 + 1 + 1 + 1 + 1 + 1 + 1 + 1 + 1 + 1))] := by
  simp only [nwFs, nwL, gF_12, List.set_cons_succ, List.set_cons_zero]
theorem nw_ob {h' : gH} {r : Nat} (r3 : h'.2 r = some (oO 12 (nwFs (r + 1) nwL gF_12))) (r5 : ∀ (i : Nat) (t : Nat × Nat × Int), nwL[i]? = some t → h'.2 (r + 1 + i) = some (oA t.2.1 t.2.2.toNat (fun _ => 0))) : mOb h' r 12 zG := by
  rw [nwFs_e] at r3
  refine ⟨_, r3, rfl, fun k t hk => ?_⟩
  have hlt : k < 27 := (List.getElem?_eq_some_iff.mp hk).1
  rcases (by omega : k = 0 ∨ k = 1 ∨ k = 2 ∨ k = 3 ∨ k = 4 ∨ k = 5 ∨ k = 6 ∨ k = 7 ∨ k = 8 ∨ k = 9 ∨ k = 10 ∨ k = 11 ∨ k = 12 ∨ k = 13 ∨ k = 14 ∨ k = 15 ∨ k = 16 ∨ k = 17 ∨ k = 18 ∨ k = 19 ∨ k = 20 ∨ k = 21 ∨ k = 22 ∨ k = 23 ∨ k = 24 ∨ k = 25 ∨ k = 26) with rfl | rfl | rfl | rfl | rfl | rfl | rfl | rfl | rfl | rfl | rfl | rfl | rfl | rfl | rfl | rfl | rfl | rfl | rfl | rfl | rfl | rfl | rfl | rfl | rfl | rfl | rfl
  · obtain rfl : ((0, 0, 0) : Nat × Nat × Nat) = t := Option.some.inj hk
    exact ⟨rfl, fun q => absurd q (by decide)⟩
  · obtain rfl : ((0, 0, 0) : Nat × Nat × Nat) = t := Option.some.inj hk
    exact ⟨rfl, fun q => absurd q (by decide)⟩
  · obtain rfl : ((0, 0, 0) : Nat × Nat × Nat) = t := Option.some.inj hk
    exact ⟨rfl, fun q => absurd q (by decide)⟩
  · obtain rfl : ((0, 0, 0) : Nat × Nat × Nat) = t := Option.some.inj hk
    exact ⟨rfl, fun q => absurd q (by decide)⟩
  · obtain rfl : ((0, 0, 0) : Nat × Nat × Nat) = t := Option.some.inj hk
    exact ⟨rfl, fun q => absurd q (by decide)⟩
  · obtain rfl : ((0, 0, 0) : Nat × Nat × Nat) = t := Option.some.inj hk
    exact ⟨rfl, fun q => absurd q (by decide)⟩
  · obtain rfl : ((0, 0, 0) : Nat × Nat × Nat) = t := Option.some.inj hk
    exact ⟨rfl, fun q => absurd q (by decide)⟩
  · obtain rfl : ((0, 0, 0) : Nat × Nat × Nat) = t := Option.some.inj hk
    exact ⟨rfl, fun q => absurd q (by decide)⟩
  · obtain rfl : ((4, 1, 7) : Nat × Nat × Nat) = t := Option.some.inj hk
    exact ⟨rfl, fun _ => mArr_i (ty := 2) (off := 1) (N := 7) (by decide) (r5 0 _ rfl) (fun _ _ _ => rfl)⟩
  · obtain rfl : ((2, 2, 7) : Nat × Nat × Nat) = t := Option.some.inj hk
    exact ⟨rfl, fun _ => mArr_i (ty := 0) (off := 2) (N := 7) (by decide) (r5 1 _ rfl) (fun _ _ _ => rfl)⟩
  · obtain rfl : ((2, 3, 7) : Nat × Nat × Nat) = t := Option.some.inj hk
    exact ⟨rfl, fun _ => mArr_i (ty := 0) (off := 3) (N := 7) (by decide) (r5 2 _ rfl) (fun _ _ _ => rfl)⟩
  · obtain rfl : ((2, 4, 7) : Nat × Nat × Nat) = t := Option.some.inj hk
    exact ⟨rfl, fun _ => mArr_i (ty := 0) (off := 4) (N := 7) (by decide) (r5 3 _ rfl) (fun _ _ _ => rfl)⟩
  · obtain rfl : ((2, 5, 42) : Nat × Nat × Nat) = t := Option.some.inj hk
    exact ⟨rfl, fun _ => mArr_i (ty := 0) (off := 5) (N := 42) (by decide) (r5 4 _ rfl) (fun _ _ _ => rfl)⟩
  · obtain rfl : ((2, 6, 7) : Nat × Nat × Nat) = t := Option.some.inj hk
    exact ⟨rfl, fun _ => mArr_i (ty := 0) (off := 6) (N := 7) (by decide) (r5 5 _ rfl) (fun _ _ _ => rfl)⟩
  · obtain rfl : ((2, 7, 7) : Nat × Nat × Nat) = t := Option.some.inj hk
    exact ⟨rfl, fun _ => mArr_i (ty := 0) (off := 7) (N := 7) (by decide) (r5 6 _ rfl) (fun _ _ _ => rfl)⟩
  · obtain rfl : ((2, 8, 7) : Nat × Nat × Nat) = t := Option.some.inj hk
    exact ⟨rfl, fun _ => mArr_i (ty := 0) (off := 8) (N := 7) (by decide) (r5 7 _ rfl) (fun _ _ _ => rfl)⟩
  · obtain rfl : ((2, 9, 21) : Nat × Nat × Nat) = t := Option.some.inj hk
    exact ⟨rfl, fun _ => mArr_i (ty := 0) (off := 9) (N := 21) (by decide) (r5 8 _ rfl) (fun _ _ _ => rfl)⟩
  · obtain rfl : ((2, 10, 21) : Nat × Nat × Nat) = t := Option.some.inj hk
    exact ⟨rfl, fun _ => mArr_i (ty := 0) (off := 10) (N := 21) (by decide) (r5 9 _ rfl) (fun _ _ _ => rfl)⟩
  · obtain rfl : ((5, 11, 7) : Nat × Nat × Nat) = t := Option.some.inj hk
    exact ⟨rfl, fun _ => mArr_i (ty := 3) (off := 11) (N := 7) (by decide) (r5 10 _ rfl) (fun _ _ _ => rfl)⟩
  · obtain rfl : ((2, 12, 10) : Nat × Nat × Nat) = t := Option.some.inj hk
    exact ⟨rfl, fun _ => mArr_i (ty := 0) (off := 12) (N := 10) (by decide) (r5 11 _ rfl) (fun _ _ _ => rfl)⟩
  · obtain rfl : ((2, 13, 10) : Nat × Nat × Nat) = t := Option.some.inj hk
    exact ⟨rfl, fun _ => mArr_i (ty := 0) (off := 13) (N := 10) (by decide) (r5 12 _ rfl) (fun _ _ _ => rfl)⟩
  · obtain rfl : ((2, 14, 10) : Nat × Nat × Nat) = t := Option.some.inj hk
    exact ⟨rfl, fun _ => mArr_i (ty := 0) (off := 14) (N := 10) (by decide) (r5 13 _ rfl) (fun _ _ _ => rfl)⟩
  · obtain rfl : ((2, 15, 6) : Nat × Nat × Nat) = t := Option.some.inj hk
    exact ⟨rfl, fun _ => mArr_i (ty := 0) (off := 15) (N := 6) (by decide) (r5 14 _ rfl) (fun _ _ _ => rfl)⟩
  · obtain rfl : ((2, 16, 48) : Nat × Nat × Nat) = t := Option.some.inj hk
    exact ⟨rfl, fun _ => mArr_i (ty := 0) (off := 16) (N := 48) (by decide) (r5 15 _ rfl) (fun _ _ _ => rfl)⟩
  · obtain rfl : ((2, 17, 8) : Nat × Nat × Nat) = t := Option.some.inj hk
    exact ⟨rfl, fun _ => mArr_i (ty := 0) (off := 17) (N := 8) (by decide) (r5 16 _ rfl) (fun _ _ _ => rfl)⟩
  · obtain rfl : ((2, 18, 8) : Nat × Nat × Nat) = t := Option.some.inj hk
    exact ⟨rfl, fun _ => mArr_i (ty := 0) (off := 18) (N := 8) (by decide) (r5 17 _ rfl) (fun _ _ _ => rfl)⟩
  · obtain rfl : ((2, 19, 8) : Nat × Nat × Nat) = t := Option.some.inj hk
    exact ⟨rfl, fun _ => mArr_i (ty := 0) (off := 19) (N := 8) (by decide) (r5 18 _ rfl) (fun _ _ _ => rfl)⟩
theorem nwSm_e : nwSm nwL = 248 := by decide
theorem nwLl_e : nwL.length = 19 := by decide
theorem gF12_e : gF_12.length = 27 := by decide
theorem nw_mid {h h0 : gH} {n : Nat} (p1 : h0.1 = (h.1.1 + 1, h.1.2.1 + 1, h.1.2.2 + 27)) (p2 : ∀ a, h0.2 a = if a = h.1.1 then some (oO 12 gF_12) else h.2 a) : ∃ h' : gH, nwSt nwL n [some (vR (some h.1.1))] h0 = some (some (3, none), [some (vR (some h.1.1))], h') ∧ h'.1 = (h.1.1 + 20, h.1.2.1 + 20, h.1.2.2 + 275) ∧ h'.2 h.1.1 = some (oO 12 (nwFs (h.1.1 + 1) nwL gF_12)) ∧ (∀ b, b < h.1.1 → h'.2 b = h.2 b) ∧ (∀ (i : Nat) (t : Nat × Nat × Int), nwL[i]? = some t → h'.2 (h.1.1 + 1 + i) = some (oA t.2.1 t.2.2.toNat (fun _ => 0))) := by
  have p11 : h0.1.1 = h.1.1 + 1 := congrArg Prod.fst p1
  have p12 : h0.1.2.1 = h.1.2.1 + 1 := congrArg (fun x => x.2.1) p1
  have p13 : h0.1.2.2 = h.1.2.2 + 27 := congrArg (fun x => x.2.2) p1
  obtain ⟨h', r1, r2, r3, r4, r5⟩ := nw_run (r := h.1.1) (n := n) nwL h0 gF_12 (by rw [p2, if_pos rfl]) (by omega) nw_chk
  rw [p11] at r3 r4 r5
  rw [p11, p12, p13, nwSm_e, nwLl_e] at r2
  exact ⟨h', r1, r2, r3, fun b hb => by rw [r4 b (by omega) (by omega), p2, if_neg (by omega)], r5⟩
theorem se_obS {b : gSt} {n r : Nat} {h : gH} {y : Option (gEx × gLo × gH)} (e : b n [some (vR (some r))] h = y) : seS obS b n [some (vR (some r))] h = y := e
theorem nw_call {h h0 h' : gH} {n d : Nat} (p2 : ∀ a, h0.2 a = if a = h.1.1 then some (oO 12 gF_12) else h.2 a) (r1 : nwSt nwL n [some (vR (some h.1.1))] h0 = some (some (3, none), [some (vR (some h.1.1))], h')) (le0 : gLe h0 h') : gOr n (d + 1) 164 [vR (some h.1.1)] h0 = some (none, h') := by
  have rc : gRcb (some 12) [vR (some h.1.1)] h0 = true := by simp [gRcb, p2]
  have body : bX12_init (gOr n d) n [some (vR (some h.1.1))] h0 = some (some (3, none), [some (vR (some h.1.1))], h') := by
    rw [nw_body]
    exact se_obS r1
  exact gOr_run mt_164 gb_164 (by decide) (by decide) rc (Nat.le_of_ble_eq_true rfl) body rfl le0
theorem nw_nw {L : gLo} {h : gH} {n d : Nat} : ∃ h' : gH, nwR (gOr n (d + 1)) 12 gF_12 164 a0 L h = some (some h.1.1, h') ∧ h'.1 = (h.1.1 + 20, h.1.2.1 + 20, h.1.2.2 + 275) ∧ h'.2 h.1.1 = some (oO 12 (nwFs (h.1.1 + 1) nwL gF_12)) ∧ (∀ b, b < h.1.1 → h'.2 b = h.2 b) ∧ (∀ (i : Nat) (t : Nat × Nat × Int), nwL[i]? = some t → h'.2 (h.1.1 + 1 + i) = some (oA t.2.1 t.2.2.toNat (fun _ => 0))) := by
  obtain ⟨h0, e0⟩ : ∃ h0 : gH, h0 = gPush h gF_12.length (oO 12 gF_12) := ⟨_, rfl⟩
  have p1 : h0.1 = (h.1.1 + 1, h.1.2.1 + 1, h.1.2.2 + 27) := by
    rw [e0, gF12_e]
    rfl
  have p2 : ∀ a, h0.2 a = if a = h.1.1 then some (oO 12 gF_12) else h.2 a := fun a => by subst e0; rfl
  obtain ⟨h', r1, q1, r3, r4, r5⟩ := nw_mid (n := n) p1 p2
  have le0 : gLe h0 h' := by
    unfold gLe
    rw [q1, p1]
    exact ⟨by show h.1.1 + 1 ≤ h.1.1 + 20; omega, by show h.1.2.1 + 1 ≤ h.1.2.1 + 20; omega, by show h.1.2.2 + 27 ≤ h.1.2.2 + 275; omega⟩
  have call := nw_call (d := d) p2 r1 le0
  exact ⟨h', by simp only [nwR, a0, Option.bind_some, ← e0, call], q1, r3, r4, r5⟩
theorem EE_nw {L : gLo} {c : cT} {V : Mem} {n d : Nat} (hc : 331 ≤ c.1) (h20 : (c.1 - 331) % 20 = 0) : EE (nwR (gOr n (d + 1)) 12 gF_12 164 a0) L c V (fun r c' V' => r = some c.1 ∧ c' = cN c ∧ V' = sO V c.1 zG) := by
  intro h H
  obtain ⟨rfl, H2, H3⟩ := H
  obtain ⟨h', e1, q1, r3, keep, r5⟩ := nw_nw (L := L) (h := h) (n := n) (d := d)
  have q11 : h'.1.1 = h.1.1 + 20 := congrArg Prod.fst q1
  have le : gLe h h' := by
    unfold gLe
    rw [q1]
    exact ⟨Nat.le_add_right _ _, Nat.le_add_right _ _, Nat.le_add_right _ _⟩
  refine ⟨some h.1.1, h', cN h.1, sO V h.1.1 zG, e1, ⟨q1, fun a ci ha => ?_, ?_⟩, le, rfl, rfl, rfl⟩
  · by_cases e : a = h.1.1
    · subst e
      obtain ⟨rfl, -, -⟩ := mcl_dyn (by omega) ha
      rw [sO_at]
      exact nw_ob r3 r5
    · have ha' : mcl h.1.1 a = some ci := by
        by_cases hl : a < 331
        · unfold mcl at ha ⊢
          rw [if_pos hl] at ha ⊢
          exact ha
        · obtain ⟨rfl, u1, u2⟩ := mcl_dyn hl ha
          unfold mcl
          rw [if_neg hl, if_pos ⟨u1, by omega⟩]
      have alt : a < h.1.1 := by
        by_cases hl : a < 331
        · omega
        · have := (mcl_dyn hl ha').2.2
          omega
      rw [sO_ne e]
      obtain ⟨fs, f1, f2, f3⟩ := H2 a ci ha'
      refine ⟨fs, (keep a alt).trans f1, f2, fun k t hk => ⟨(f3 k t hk).1, fun ht => ?_⟩⟩
      have ow := (ow_arr ha' hk ht).1
      have lt2 : a + t.2.1 < h.1.1 := by
        by_cases hb : a + t.2.1 < 331
        · omega
        · unfold ownr at ow
          rw [if_neg hb] at ow
          have := (mcl_dyn (by omega) ha').2.2
          omega
      rw [keep _ lt2]
      exact (f3 k t hk).2 ht
  · obtain ⟨g, g1, g2⟩ := H3
    exact ⟨g, (keep 330 (by omega)).trans g1, by rw [sO_ne (by omega)]; exact g2⟩
theorem WW_nwP {L : gLo} {c : cT} {V : Mem} {n n' d : Nat} {Q : gEx → gLo → cT → Mem → Prop} (hl : L[0]? = some (some (vR (some 305)))) (hd : 1 ≤ d) (hc : 331 ≤ c.1) (h20 : (c.1 - 331) % 20 = 0) (hq : Q none L (cN c) (sM (sO V c.1 zG) 305 4 (fun _ => (c.1 : Int)))) : WW (pfR 13 4 (lR 0) (nwR (gOr n' d) 12 gF_12 164 (a0))) n L c V Q := by
  obtain ⟨d', rfl⟩ : ∃ d', d = d' + 1 := ⟨d - 1, by omega⟩
  intro h H
  obtain ⟨h1, e1, H1⟩ := (PE_lR (c := c) (V := V) hl) h H
  obtain ⟨_, h2, _, _, e2, H2, l2, rfl, rfl, rfl⟩ := EE_nw (n := n') (d := d') (L := L) (V := V) hc h20 h1 H1
  obtain ⟨h3, e3, H3⟩ := mH_putF (k := 4) H2 k_305 rfl rfl (fun _ => (c.1 : Int)) (v := vR (some c.1)) (by show vR (some c.1) = vR (rf (c.1 : Int)); rw [rf_nat])
  exact ⟨_, _, h3, _, _, by simp only [pfR, e1, e2, Option.bind_some, e3], H3, ((mH_le H H1).tr l2).tr (mH_le H2 H3), hq⟩
