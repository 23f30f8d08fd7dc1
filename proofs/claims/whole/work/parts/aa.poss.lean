/-! PAIRINGS in the class: possible, fewestToAsk -/
theorem zAnd_a2 {x y z : Int} : zAnd (zAnd x y) z = zAnd x (zAnd y z) := by
  unfold zAnd
  rw [Int32.ofInt_toInt, Int32.ofInt_toInt, Int32.and_assoc]
theorem zAnd_l0 {x : Int} : zAnd 0 x = 0 := by
  unfold zAnd
  have : Int32.ofInt 0 = 0 := rfl
  rw [this, Int32.zero_and]
  rfl
theorem shA_dec : ∀ k ∈ List.range 8, ∀ j ∈ List.range 8, zAnd (zShl 1 (k : Int)) (zShl 1 (j : Int)) = if k = j then zShl 1 (k : Int) else 0 := by decide +kernel
theorem opn_0 {V : Mem} {i : Int} : opnF V 0 i = V 294 2 i := by
  unfold opnF
  rw [zAnd_l0, if_neg (fun h => h rfl)]
theorem ch_eq {V V' : Mem} {a : Int} (h2 : V' 294 2 = V 294 2) (h3 : V' 294 3 = V 294 3) : chF2 V' a = chF2 V a := by
  unfold chF2 opnF
  rw [h2, h3]
/-- with one place left to who i -/
theorem ch_res {V V' : Mem} {i k P : Nat} (hP : P ≤ 8) (hk : k < P) (h2 : V' 294 2 = gUz (V 294 2) i (zAnd (V 294 2 i) (zShl 1 (k : Int)))) : ∀ q j, j < P → chF2 V' 0 q j = resC (chF2 V 0) i k q j := by
  intro q j hj
  unfold resC chF2
  rw [opn_0, opn_0, h2]
  by_cases e : q = i
  · subst e
    rw [gUz_at, zAnd_a2, shA_dec k (List.mem_range.mpr (by omega)) j (List.mem_range.mpr (by omega))]
    by_cases ek : k = j
    · subst ek
      simp
    · rw [if_neg ek, zAnd_r0]
      have : ¬ j = k := fun q => ek q.symm
      simp [this]
  · rw [gUz_ne (by omega)]
    simp [e]
section PO
variable {c : cT} {V : Mem} {R : Option gAV → cT → Mem → Prop}
theorem cc_51 {p : Int} {m P : Nat} (hpn : V 294 0 0 = (m : Int)) (hP0 : V 294 5 0 = (P : Int)) (hm7 : m ≤ 7) (hP2 : 1 ≤ P) (hP8 : P ≤ 8) (hu : ∀ i j : Nat, i < m → j < m → V 294 1 i = V 294 1 j → i = j) (hq : ∀ (Y : oV) (x : Int), (∀ k, k ≠ 4 → Y k = V 294 k) → (∀ i : Nat, i < m → V 294 1 i = p → x = bset 8 (fun k => dn (Gs (chF2 V 0) P m []) i k.toNat)) → ((∀ i : Nat, i < m → V 294 1 i ≠ p) → x = 0) → R (some (vI x)) c (sO V 294 Y)) : CC 5 51 [vR (some 294), vI p] c V R := by
  obtain ⟨all, hall⟩ : ∃ all, all = Gs (chF2 V 0) P m [] := ⟨_, rfl⟩
  rw [← hall] at hq
  have hat : ∀ (Y : oV) (k : Nat), sO V 294 Y 294 k = Y k := fun Y k => by rw [sO_at]
  refine CC_of mt_51 gb_51 (by decide) (by decide) (rcb_o k_294) (Nat.le_of_ble_eq_true rfl) fun n dd hn hd => ?_
  show WW (bX7_possible (gOr n dd)) n [some (vR (some (294))), some (vI (p)), none, none, none, none] _ _ _
  unfold bX7_possible
  have hn0 : 1000000000 ≤ n := hn
  refine WW_se (WW_st PE_kI (SQ_n (WW_se (WW_se (WW_st PE_kI (SQ_n ?_))))))
  refine WW_for 900000000 0 (m : Int) (fun j L1 c1 V1 => ∃ (i : Nat) (z4 z5 : Option gAV) (Y : oV) (b : Int), j = (i : Int) ∧ L1 = [some (vR (some 294)), some (vI p), some (vI b), some (vI j), z4, z5] ∧ c1 = c ∧ V1 = sO V 294 Y ∧ (∀ k, k ≠ 4 → Y k = V 294 k) ∧ (∀ q : Nat, q < i → V 294 1 q = p → b = bset 8 (fun k => dn all q k.toNat)) ∧ ((∀ q : Nat, q < i → V 294 1 q ≠ p) → b = 0)) (by omega) (by omega) (by omega) (by omega) ⟨0, none, none, V 294, 0, rfl, rfl, rfl, sO_id.symm, fun _ _ => rfl, fun q h => by omega, fun _ => rfl⟩ ?_ ?_ ?_
  · rintro j _ c _ j0 j1 ⟨i, z4, z5, Y, b, rfl, rfl, rfl, rfl, hY, h1, h2⟩
    refine ⟨rfl, ?_⟩
    have := PE_fI (ci := 7) (k := 0) (c := c) (V := sO V 294 Y) (L := [some (vR (some 294)), some (vI p), some (vI b), some (vI (i : Int)), z4, z5]) rfl (PE_lR (i := 0) rfl) k_294
    rwa [hat, hY 0 (by decide), hpn] at this
  · rintro j k' _ c _ j0 j1 hk' ⟨i, z4, z5, Y, b, rfl, rfl, rfl, rfl, hY, h1, h2⟩
    have him : i < m := by omega
    have e1 : PE (aI 0 (fR 7 1 (lR 0)) (lI 3)) [some (vR (some 294)), some (vI p), some (vI b), some (vI (i : Int)), z4, z5] c (sO V 294 Y) (V 294 1 i) := by
      have := PE_aF (ty := 0) (ci := 7) (k := 1) (c := c) (V := sO V 294 Y) (L := [some (vR (some 294)), some (vI p), some (vI b), some (vI (i : Int)), z4, z5]) rfl (by decide) (PE_lR (i := 0) rfl) k_294 (PE_lI (i := 3) rfl) j0 (by omega)
      rwa [hat, hY 1 (by decide)] at this
    by_cases hp : V 294 1 (i : Int) = p
    · refine WW_if (PE_cm e1 (PE_lI rfl)) (fun _ => ?_) (fun hb => absurd hp (of_decide_eq_false hb))
      have hb0 : b = 0 := h2 fun q hq' e => by
        have := hu q i (by omega) him (e.trans hp.symm)
        omega
      subst hb0
      have e2 : PE (aI 0 (fR 7 2 (lR 0)) (lI 3)) [some (vR (some 294)), some (vI p), some (vI 0), some (vI (i : Int)), z4, z5] c (sO V 294 Y) (V 294 2 i) := by
        have := PE_aF (ty := 0) (ci := 7) (k := 2) (c := c) (V := sO V 294 Y) (L := [some (vR (some 294)), some (vI p), some (vI 0), some (vI (i : Int)), z4, z5]) rfl (by decide) (PE_lR (i := 0) rfl) k_294 (PE_lI (i := 3) rfl) j0 (by omega)
        rwa [hat, hY 2 (by decide)] at this
      refine WW_se (WW_st e2 (SQ_n (WW_se (WW_se (WW_st PE_kI (SQ_n ?_))))))
      refine WW_for 800000000 0 (P : Int) (fun j L1 c1 V1 => ∃ (k : Nat) (Y : oV) (x : Int), j = (k : Int) ∧ L1 = [some (vR (some 294)), some (vI p), some (vI (bset 8 (fun z => decide (z < (k : Int)) && (fun z : Int => dn all i z.toNat) z))), some (vI (i : Int)), some (vI (V 294 2 i)), some (vI j)] ∧ c1 = c ∧ V1 = sO V 294 Y ∧ (∀ k, k ≠ 2 → k ≠ 4 → Y k = V 294 k) ∧ Y 2 = gUz (V 294 2) i x) (by omega) (by omega) (by omega) (by omega) ⟨0, Y, V 294 2 i, rfl, by rw [bs_0]; rfl, rfl, rfl, fun k _ b => hY k b, by rw [gUz_id]; exact hY 2 (by decide)⟩ ?_ ?_ ?_
      · rintro j _ c _ j0 j1 ⟨k, Y2, x, rfl, rfl, rfl, rfl, hY2, hx⟩
        refine ⟨rfl, ?_⟩
        have := PE_fI (ci := 7) (k := 5) (c := c) (V := sO V 294 Y2) (L := [some (vR (some 294)), some (vI p), some (vI (bset 8 (fun z => decide (z < (k : Int)) && (fun z : Int => dn all i z.toNat) z))), some (vI (i : Int)), some (vI (V 294 2 i)), some (vI (k : Int))]) rfl (PE_lR (i := 0) rfl) k_294
        rwa [hat, hY2 5 (by decide) (by decide), hP0] at this
      · rintro j k2 _ c _ j0 j1 hk2 ⟨k, Y2, x, rfl, rfl, rfl, rfl, hY2, hx⟩
        have hkP : k < P := by omega
        obtain ⟨bb, hbb⟩ : ∃ bb, bb = bset 8 (fun z => decide (z < (k : Int)) && (fun z : Int => dn all i z.toNat) z) := ⟨_, rfl⟩
        rw [← hbb]
        have hup := bs_up (D := fun z : Int => dn all i z.toNat) (k := k) (by omega)
        rw [← hbb] at hup
        refine WW_se (WW_asF (ty := 0) (z := zAnd (V 294 2 i) (zShl 1 (k : Int))) rfl (by decide) (PE_lR rfl) k_294 (PE_lI rfl) (by omega) (by omega) (PE_o2 (PE_lI rfl) (PE_o2 PE_kI (PE_lI rfl))) rfl (SQ_n ?_))
        obtain ⟨Y3, hY3⟩ : ∃ Y3, Y3 = sF Y2 2 (gUz (V 294 2) i (zAnd (V 294 2 i) (zShl 1 (k : Int)))) := ⟨_, rfl⟩
        have eY : sM (sO V 294 Y2) 294 2 (gUz (sO V 294 Y2 294 2) i (zAnd (V 294 2 i) (zShl 1 (k : Int)))) = sO V 294 Y3 := by
          rw [hat, hx, gUz_gUz, hY3, sM, sO_sO, sO_at]
        rw [eY]
        have y2 : Y3 2 = gUz (V 294 2) i (zAnd (V 294 2 i) (zShl 1 (k : Int))) := by rw [hY3, sF_at]
        have yo : ∀ k, k ≠ 2 → k ≠ 4 → Y3 k = V 294 k := fun k k2 k4 => by rw [hY3, sF_ne k2]; exact hY2 k k2 k4
        have e3 : PE (aI 0 (fR 7 2 (lR 0)) (lI 3)) [some (vR (some 294)), some (vI p), some (vI bb), some (vI (i : Int)), some (vI (V 294 2 i)), some (vI (k : Int))] c (sO V 294 Y3) (zAnd (V 294 2 i) (zShl 1 (k : Int))) := by
          have := PE_aF (ty := 0) (ci := 7) (k := 2) (c := c) (V := sO V 294 Y3) (L := [some (vR (some 294)), some (vI p), some (vI bb), some (vI (i : Int)), some (vI (V 294 2 i)), some (vI (k : Int))]) rfl (by decide) (PE_lR (i := 0) rfl) k_294 (PE_lI (i := 3) rfl) (by omega) (by omega)
          rwa [hat, y2, gUz_at] at this
        have hres : (Mk (chF2 (sO V 294 Y3) 0) P m).length = (Gs (resC (chF2 V 0) i k) P m []).length := by
          rw [Gs_len hP8]
          congr 1
          exact Gs_cg (n := m) (fun q j _ hj => ch_res hP8 hkP (by rw [hat]; exact y2) q j hj) (by show 0 + m ≤ m; omega)
        have hdn := dn_res (ch := chF2 V 0) (P := P) (k := k) him
        rw [← hall] at hdn
        rw [Int.toNat_natCast] at hup
        refine WW_ifE (EE_and (EE_pe (PE_cz e3) ⟨fun hb => ⟨(fun q => by cases q), fun _ => WW_sk (LQ_n ⟨rfl, k + 1, Y3, _, rfl, ?_, rfl, rfl, yo, y2⟩)⟩, fun hb => EE_cz (EE_cIx hn (EE_pe (PE_aCR (PE_lR rfl) (PE_aCI PE_kI PE_a0)) (cc_50 (m := m) (P := P) (by rw [hat, yo 0 (by decide) (by decide)]; exact hpn) (by rw [hat, yo 5 (by decide) (by decide)]; exact hP0) hm7 hP2 hP8 fun w => ⟨_, rfl, ?_, ?_⟩)) (by omega))⟩))
        · have hz : zAnd (V 294 2 i) (zShl 1 (k : Int)) = 0 := Classical.not_not.mp (of_decide_eq_false hb)
          have hf : ¬ dn all i k = true := fun q => by
            rw [hall] at q
            have := dn_ch q
            unfold chF2 at this
            rw [opn_0] at this
            exact of_decide_eq_true this hz
          rw [if_neg hf] at hup
          rw [hup]
          rfl
        · intro hc
          rw [hres] at hc
          have hc : ((Gs (resC (chF2 V 0) i k) P m []).length : Int) > 0 := of_decide_eq_true hc
          have ht : dn all i k = true := hdn.mp (by omega)
          rw [if_pos ht] at hup
          refine WW_st (PE_o2 (PE_lI rfl) (PE_o2 PE_kI (PE_lI rfl))) (LQ_n ⟨rfl, k + 1, sF Y3 4 w, _, rfl, ?_, rfl, ?_, fun q q2 q4 => by rw [sF_ne q4]; exact yo q q2 q4, by rw [sF_ne (by decide)]; exact y2⟩)
          · rw [hup]
            rfl
          · rw [sM, sO_sO, sO_at]
        · intro hc
          rw [hres] at hc
          have hc : ¬ ((Gs (resC (chF2 V 0) i k) P m []).length : Int) > 0 := of_decide_eq_false hc
          have hf : ¬ dn all i k = true := fun q => hc (by have := hdn.mpr q; omega)
          rw [if_neg hf] at hup
          refine WW_sk (LQ_n ⟨rfl, k + 1, sF Y3 4 w, _, rfl, ?_, rfl, ?_, fun q q2 q4 => by rw [sF_ne q4]; exact yo q q2 q4, by rw [sF_ne (by decide)]; exact y2⟩)
          · rw [hup]
            rfl
          · rw [sM, sO_sO, sO_at]
      · rintro _ c _ ⟨k, Y2, x, hk, rfl, rfl, rfl, hY2, hx⟩
        have hkP : k = P := by omega
        subst hkP
        have efin : bset 8 (fun z => decide (z < (k : Int)) && (fun z : Int => dn all i z.toNat) z) = bset 8 (fun z => dn all i z.toNat) := bset_congr fun z z0 z1 => by
          by_cases hz : z < (k : Int)
          · rw [decide_eq_true hz]; rfl
          · have : dn all i z.toNat = false := by rw [hall]; exact dn_big (by omega)
            show (decide (z < (k : Int)) && dn all i z.toNat) = _
            rw [this, Bool.and_false]
        rw [efin]
        refine SQ_n (WW_asF (ty := 0) (z := V 294 2 i) rfl (by decide) (PE_lR rfl) k_294 (PE_lI rfl) (by omega) (by omega) (PE_lI rfl) rfl (LQ_n ⟨rfl, i + 1, some (vI (V 294 2 i)), some (vI (k : Int)), sF Y2 2 (V 294 2), _, rfl, rfl, rfl, ?_, fun q q4 => ?_, fun q hq1 hqp => ?_, fun hno => ?_⟩))
        · rw [hat, hx, gUz_gUz, gUz_id, sM, sO_sO, sO_at]
        · by_cases q2 : q = 2
          · subst q2
            rw [sF_at]
          · rw [sF_ne q2]
            exact hY2 q q2 q4
        · have := hu q i (by omega) him (hqp.trans hp.symm)
          rw [this]
        · exact absurd hp (hno i (by omega))
    · refine WW_if (PE_cm e1 (PE_lI rfl)) (fun hb => absurd (of_decide_eq_true hb) hp) (fun _ => WW_sk (LQ_n ⟨rfl, i + 1, z4, z5, Y, b, rfl, rfl, rfl, rfl, hY, fun q hq1 hqp => ?_, fun hno => h2 fun q hq1 => hno q (by omega)⟩))
      by_cases e : q = i
      · rw [e] at hqp; exact absurd hqp hp
      · exact h1 q (by omega) hqp
  · rintro _ c _ ⟨i, z4, z5, Y, b, hi, rfl, rfl, rfl, hY, h1, h2⟩
    have him : i = m := by omega
    subst him
    exact SQ_n (WW_rt (PE_lI rfl) ⟨_, rfl, rfl, hq Y b hY h1 h2⟩)
/-- the best set so far -/
def askF (w : Int → Bool) (i0 : Int) (n : Nat) : Int := it (fun a b => if popF a < popF b ∧ w a = true then a else b) n i0
theorem askF_rng {w : Int → Bool} {i0 : Int} (h0 : 0 ≤ i0) (h1 : i0 < 256) : ∀ {n : Nat}, n ≤ 256 → 0 ≤ askF w i0 n ∧ askF w i0 n < 256
  | 0, _ => ⟨h0, h1⟩
  | n + 1, hn => by
    have ih := askF_rng (w := w) h0 h1 (n := n) (by omega)
    show 0 ≤ (if popF n < popF (askF w i0 n) ∧ w n = true then (n : Int) else askF w i0 n) ∧ (if popF n < popF (askF w i0 n) ∧ w n = true then (n : Int) else askF w i0 n) < 256
    split <;> omega
def mskF (f : Int → Int) (b : Int) (n : Nat) : Int := it (fun i z => zOr z (if ¬ zAnd b (zShl 1 i) = 0 then zShl 1 (f i) else 0)) n 0
theorem cc_52 {m P : Nat} (hpn : V 294 0 0 = (m : Int)) (hP0 : V 294 5 0 = (P : Int)) (hm7 : m ≤ 7) (hP2 : 1 ≤ P) (hP8 : P ≤ 8) (hq : ∀ Y : oV, (∀ k, k ≠ 4 → Y k = V 294 k) → R (some (vI (mskF (V 294 1) (askF (fun a => decide ((Gs (chF2 V a) P m []).length = 1)) ((2 ^ m : Nat) - 1 : Int) (2 ^ m)) m))) c (sO V 294 Y)) : CC 5 52 [vR (some 294)] c V R := by
  have hat : ∀ (Y : oV) (k : Nat), sO V 294 Y 294 k = Y k := fun Y k => by rw [sO_at]
  have e2m := shlP_dec m (List.mem_range.mpr (by omega))
  have h128 : 2 ^ m ≤ 128 := by
    rcases (by omega : m = 0 ∨ m = 1 ∨ m = 2 ∨ m = 3 ∨ m = 4 ∨ m = 5 ∨ m = 6 ∨ m = 7) with rfl | rfl | rfl | rfl | rfl | rfl | rfl | rfl <;> decide
  have h1m := Nat.two_pow_pos m
  obtain ⟨w, hw⟩ : ∃ w : Int → Bool, w = fun a => decide ((Gs (chF2 V a) P m []).length = 1) := ⟨_, rfl⟩
  rw [← hw] at hq
  obtain ⟨N, hN⟩ : ∃ N : Nat, N = 2 ^ m := ⟨_, rfl⟩
  rw [← hN] at hq e2m h128 h1m
  have hrn : ∀ {n : Nat}, n ≤ 128 → 0 ≤ askF w ((N : Int) - 1) n ∧ askF w ((N : Int) - 1) n < 256 := fun {n} hn => askF_rng (by omega) (by omega) (by omega)
  refine CC_of mt_52 gb_52 (by decide) (by decide) (rcb_o k_294) (Nat.le_of_ble_eq_true rfl) fun n dd hn hd => ?_
  show WW (bX7_fewestToAsk (gOr n dd)) n [some (vR (some (294))), none, none, none] _ _ _
  unfold bX7_fewestToAsk
  have hn0 : 1000000000 ≤ n := hn
  have pm : ∀ {L : gLo} {Y : oV}, L[0]? = some (some (vR (some 294))) → (∀ k, k ≠ 4 → Y k = V 294 k) → PE (fI 7 0 (lR 0)) L c (sO V 294 Y) (m : Int) := fun {L Y} hl hY => by
    have := PE_fI (ci := 7) (k := 0) (c := c) (V := sO V 294 Y) (L := L) rfl (PE_lR hl) k_294
    rwa [hat, hY 0 (by decide), hpn] at this
  have p2 : ∀ {L : gLo} {Y : oV}, L[0]? = some (some (vR (some 294))) → (∀ k, k ≠ 4 → Y k = V 294 k) → PE (o2 zShl (kI 1) (fI 7 0 (lR 0))) L c (sO V 294 Y) (N : Int) := fun {L Y} hl hY => by
    have := PE_o2 (f := zShl) (PE_kI (z := 1) (L := L) (c := c) (V := sO V 294 Y)) (pm hl hY)
    rwa [e2m] at this
  have hst : WW (bX7_fewestToAsk (gOr n dd)) n [some (vR (some 294)), none, none, none] c (sO V 294 (V 294)) (fun ex _ c' V' => ∃ v, ex = some (3, v) ∧ gRtB (some FieldType.int) v = true ∧ R v c' V') := by
    unfold bX7_fewestToAsk
    refine WW_se (WW_st (PE_o2 (p2 rfl fun _ _ => rfl) PE_kI) (SQ_n (WW_se (WW_se (WW_st PE_kI (SQ_n ?_))))))
    rw [zSub_id (by omega) (by omega)]
    refine WW_for 900000000 0 (N : Int) (fun j L1 c1 V1 => ∃ (a : Nat) (Y : oV), j = (a : Int) ∧ L1 = [some (vR (some 294)), some (vI (askF w ((N : Int) - 1) a)), some (vI j), none] ∧ c1 = c ∧ V1 = sO V 294 Y ∧ (∀ k, k ≠ 4 → Y k = V 294 k)) (by omega) (by omega) (by omega) (by omega) ⟨0, V 294, rfl, rfl, rfl, rfl, fun _ _ => rfl⟩ ?_ ?_ ?_
    · rintro j _ c _ j0 j1 ⟨a, Y, rfl, rfl, rfl, rfl, hY⟩
      exact ⟨rfl, p2 rfl hY⟩
    · rintro j k' _ c _ j0 j1 hk' ⟨a, Y, rfl, rfl, rfl, rfl, hY⟩
      have hr := hrn (n := a) (by omega)
      have nx : askF w ((N : Int) - 1) (a + 1) = if popF a < popF (askF w ((N : Int) - 1) a) ∧ w a = true then (a : Int) else askF w ((N : Int) - 1) a := rfl
      obtain ⟨b, hb⟩ : ∃ b, b = askF w ((N : Int) - 1) a := ⟨_, rfl⟩
      rw [← hb] at nx hr ⊢
      refine WW_ifE (EE_and (EE_pe (PE_cm (PE_cI (PE_aCI (PE_lI rfl) PE_a0) hn (pc_302 (by omega) (by omega)) (by omega)) (PE_cI (PE_aCI (PE_lI rfl) PE_a0) hn (pc_302 (by omega) (by omega)) (by omega))) ⟨fun hb => ⟨(fun q => by cases q), fun _ => WW_sk (LQ_n ⟨rfl, a + 1, Y, rfl, ?_, rfl, rfl, hY⟩)⟩, fun hb => EE_cm (EE_cIx hn (EE_pe (PE_aCR (PE_lR rfl) (PE_aCI (PE_lI rfl) PE_a0)) (cc_50 (m := m) (P := P) (by rw [hat, hY 0 (by decide)]; exact hpn) (by rw [hat, hY 5 (by decide)]; exact hP0) hm7 hP2 hP8 fun u => ⟨_, rfl, EE_pe PE_kI ⟨?_, ?_⟩⟩)) (by omega))⟩))
      · have hc := of_decide_eq_false hb
        rw [if_neg (fun q => hc q.1)] at nx
        rw [nx]
        rfl
      · have hc1 := of_decide_eq_true hb
        intro hc
        rw [Gs_len hP8, ch_eq (by rw [hat, hY 2 (by decide)]) (by rw [hat, hY 3 (by decide)])] at hc
        have hc : ((Gs (chF2 V a) P m []).length : Int) = 1 := of_decide_eq_true hc
        have hw1 : w a = true := by rw [hw]; exact decide_eq_true (by omega)
        rw [if_pos ⟨hc1, hw1⟩] at nx
        refine WW_st (PE_lI rfl) (LQ_n ⟨rfl, a + 1, sF Y 4 u, rfl, ?_, rfl, ?_, fun q q4 => by rw [sF_ne q4]; exact hY q q4⟩)
        · rw [nx]
          rfl
        · rw [sM, sO_sO, sO_at]
      · intro hc
        rw [Gs_len hP8, ch_eq (by rw [hat, hY 2 (by decide)]) (by rw [hat, hY 3 (by decide)])] at hc
        have hc : ¬ ((Gs (chF2 V a) P m []).length : Int) = 1 := of_decide_eq_false hc
        have hw1 : ¬ w a = true := fun q => hc (by rw [hw] at q; have := of_decide_eq_true q; omega)
        rw [if_neg (fun q => hw1 q.2)] at nx
        refine WW_sk (LQ_n ⟨rfl, a + 1, sF Y 4 u, rfl, ?_, rfl, ?_, fun q q4 => by rw [sF_ne q4]; exact hY q q4⟩)
        · rw [nx]
          rfl
        · rw [sM, sO_sO, sO_at]
    · rintro _ c _ ⟨a, Y, ha, rfl, rfl, rfl, hY⟩
      have haN : a = N := by omega
      subst haN
      obtain ⟨b, hb⟩ : ∃ b, b = askF w ((a : Int) - 1) a := ⟨_, rfl⟩
      rw [← hb] at hq ⊢
      refine SQ_n (WW_se (WW_st PE_kI (SQ_n (WW_se (WW_se (WW_st PE_kI (SQ_n ?_)))))))
      refine WW_for 900000000 0 (m : Int) (fun j L1 c1 V1 => ∃ i : Nat, j = (i : Int) ∧ L1 = [some (vR (some 294)), some (vI b), some (vI (mskF (V 294 1) b i)), some (vI j)] ∧ c1 = c ∧ V1 = sO V 294 Y) (by omega) (by omega) (by omega) (by omega) ⟨0, rfl, rfl, rfl, rfl⟩ ?_ ?_ ?_
      · rintro j _ c _ j0 j1 ⟨i, rfl, rfl, rfl, rfl⟩
        exact ⟨rfl, pm rfl hY⟩
      · rintro j k' _ c _ j0 j1 hk' ⟨i, rfl, rfl, rfl, rfl⟩
        have nx : mskF (V 294 1) b (i + 1) = zOr (mskF (V 294 1) b i) (if ¬ zAnd b (zShl 1 (i : Int)) = 0 then zShl 1 (V 294 1 i) else 0) := rfl
        have e1 : PE (aI 0 (fR 7 1 (lR 0)) (lI 3)) [some (vR (some 294)), some (vI b), some (vI (mskF (V 294 1) b i)), some (vI (i : Int))] c (sO V 294 Y) (V 294 1 i) := by
          have := PE_aF (ty := 0) (ci := 7) (k := 1) (c := c) (V := sO V 294 Y) (L := [some (vR (some 294)), some (vI b), some (vI (mskF (V 294 1) b i)), some (vI (i : Int))]) rfl (by decide) (PE_lR (i := 0) rfl) k_294 (PE_lI (i := 3) rfl) j0 (by omega)
          rwa [hat, hY 1 (by decide)] at this
        refine WW_st (PE_o2 (PE_lI rfl) (PE_ite (PE_cz (PE_o2 (PE_lI rfl) (PE_o2 PE_kI (PE_lI rfl)))) (fun _ => PE_o2 PE_kI e1) (fun _ => PE_kI))) (LQ_n ⟨rfl, i + 1, rfl, ?_, rfl, rfl⟩)
        rw [nx]
        have : (if cmB ClassFile.Cond.ne (zAnd b (zShl 1 (i : Int))) 0 = true then zShl 1 (V 294 1 i) else 0) = if ¬ zAnd b (zShl 1 (i : Int)) = 0 then zShl 1 (V 294 1 i) else 0 := by simp [cmB]
        rw [this]
        rfl
      · rintro _ c _ ⟨i, hi, rfl, rfl, rfl⟩
        have him : i = m := by omega
        subst him
        exact SQ_n (WW_rt (PE_lI rfl) ⟨_, rfl, rfl, hq Y hY⟩)
  rw [sO_id] at hst
  unfold bX7_fewestToAsk at hst
  exact hst
end PO
