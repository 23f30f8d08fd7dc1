/-! HOW WORN, WHEN THROWN AWAY: the course and the reference go together; the diary as a whole -/
theorem kPut_12 {G K : oV} {p m : Int} : kPut G K p 12 m = K 12 m ∧ kPut G K p 13 m = K 13 m := by
  unfold kPut
  rw [u1_o (by decide), u1_o (by decide)]
  simp only [kStand_r, Nat.reduceEqDiff, if_false, and_self]
theorem CW_puts {G K S : oV} {p : Int} (h : CW K S) : CW (kPut G K p) (putsF G S p) := fun b => by
  simp only [putsF_r, Nat.reduceEqDiff, if_false, kPut_12.1, kPut_12.2]
  exact h b
theorem CW_buys {G K S : oV} {v : Int → Int} {p d : Int} (h : CW K S) (h8 : K 8 0 = S 35 0) (h70 : S 35 0 < 70) : CW (kBuy G v K p d) (buysF G S p d) := by
  rw [kBuy_eq (by omega), buysF_eq]
  refine CW_puts fun b => ?_
  have e12 := kBuy0_r (G := G) (K := K) (v := v) (p := p) (d := d) (m := b) (j := 12) (by decide)
  have e13 := kBuy0_r (G := G) (K := K) (v := v) (p := p) (d := d) (m := b) (j := 13) (by decide)
  simp only [Nat.reduceEqDiff, if_false, if_true] at e12 e13
  rw [e12, e13]
  simp only [buy0_r, Nat.reduceEqDiff, if_false, if_true]
  intro b0 b1
  rw [h8]
  by_cases e : b = S 35 0
  · rw [if_pos e, if_pos e, if_pos e, if_pos e]
    exact ⟨rfl, rfl⟩
  · rw [if_neg e, if_neg e, if_neg e, if_neg e]
    exact h b b0 (by omega)
theorem CW_exch {K S : oV} {a b : Int} (hab : a ≠ b) (h : CW K S) : CW (kExch K a b) (exchF S a b) := fun x => by
  simp only [kExch_r hab, exchF_r, Nat.reduceEqDiff, if_false]
  exact h x
theorem CW_come {G K S : oV} {v : Int → Int} {p d : Int} (hG : GW G) (h : CK K S) (hw : CW K S) (hi : IV G S d) (hp : 0 ≤ p) (hp7 : p < G 4 0) (hd : 0 ≤ d) (hd9 : d ≤ 29) : CW (kCome G v d p K) (comeF G d p S) := by
  obtain ⟨-, ⟨g1, g2⟩, -, -, ⟨g3, g4⟩, -⟩ := id hG
  have e1 := h.2.2.1 p hp (by omega)
  have e2 := hi.1.2.2.1 p hp (by omega) (by omega)
  unfold kCome comeF kIn
  split
  · by_cases ho : S 28 p = -2
    · rw [if_pos (by omega), if_pos ho]
      have := SK_70 (p := p) hG h hi hd hd9 hp hp7 (by omega)
      exact CW_buys hw h.1 (by rw [← h.1]; exact this)
    · rw [if_neg (by omega), if_neg ho]
      have e3 : K 4 p = S 29 p := by rw [e1.2.1, if_neg (by omega)]
      by_cases h8 : 8 ≤ S 29 p
      · rw [if_pos (by omega), if_pos h8]
        exact CW_puts hw
      · rw [if_neg (by omega), if_neg h8]
        exact hw
  · exact hw
theorem CW_ren {G K S : oV} {v : Int → Int} {p d : Int} (hG : GW G) (h : CK K S) (hw : CW K S) (hi : DI G S d (d + 1)) (hv : VE G v S) (hp : 0 ≤ p) (hp7 : p < G 4 0) (hd : 0 ≤ d) (hd9 : d ≤ 29) : CW (kRen G v d p K) (renF G d p S) := by
  obtain ⟨-, ⟨g1, g2⟩, -, -, ⟨g3, g4⟩, -⟩ := id hG
  have e1 := h.2.2.1 p hp (by omega)
  have e2 := hi.1.1.2.2.1 p hp (by omega) (by omega)
  unfold kRen renF kRew
  by_cases hh : hereB G p d = true
  · obtain ⟨i, i0, i1, i2, i3⟩ := hereB_iff.mp hh
    have ho := hi.2.1 p hp hp7 ⟨i, i0, i1, by omega⟩
    have e3 := (h.2.2.2 (S 28 p) ho (by omega)).2.2
    have e4 := (hv.1 p hp hp7).2.2
    have e5 : K 11 (K 3 p) = S 25 (S 28 p) := by rw [e1.1, e3]
    rw [if_pos hh]
    by_cases hk : S 18 (14 + p) ≤ d - S 25 (S 28 p)
    · have h70 := SK_70r (p := p) hG h hi hv hd hd9 hp hp7 (by omega) (by rw [e4, e5]; exact hk)
      rw [if_pos ⟨by omega, by omega⟩, if_pos ⟨hh, hk⟩]
      refine CW_buys (fun b => ?_) ?_ ?_
      · simp only [u1_r, kLift_r, thrF_r, Nat.reduceEqDiff, if_false, if_true, e1.1]
        intro b0 b1
        have := hw b b0 b1
        refine ⟨?_, this.2⟩
        split
        · rfl
        · exact this.1
      · simp only [u1_r, kLift_r, thrF_r, Nat.reduceEqDiff, if_false]
        exact h.1
      · simp only [thrF_r, Nat.reduceEqDiff, if_false]
        rw [← h.1]; exact h70
    · rw [if_neg (fun q => hk (by have := q.2; omega)), if_neg (fun q => hk q.2)]
      exact hw
  · rw [if_neg hh, if_neg (fun q => hh q.1)]
    exact hw
theorem CW_mv {G K S : oV} {k d : Int} (hG : GW G) (hw : CW K S) (hk : 0 ≤ k) (hk2 : k < G 5 0) : CW (kMv G d k K) (mvF G d k S) := by
  unfold kMv mvF
  split
  · exact CW_exch (hG.2.2.2.2.2.2.2.2.2.2.2.1 k hk hk2).2.2.2 hw
  · exact hw
theorem CW_mva {G K S : oV} {v : Int → Int} {k d e : Int} (hw : CW K S) (hi : DI G S d e) (hv : VE G v S) (hk : 0 ≤ k) (hk2 : k < v 21) : CW (kMva v d k K) (mvaF d k S) := by
  obtain ⟨v1, v2, v3⟩ := hv.2.2 k hk hk2
  have hk3 : k < S 18 21 := by rw [← hv.2.1]; exact hk2
  unfold kMva mvaF
  rw [v1, v2, v3]
  split
  · exact CW_exch (hi.2.2.2.2.2 k hk hk3).2.2.2 hw
  · exact hw
theorem CW_morn {G K S : oV} {v : Int → Int} {d : Int} (hG : GW G) (h : CK K S) (hw : CW K S) (hi : DI G S d d) (hv : VE G v S) (hd : 0 ≤ d) (hd9 : d ≤ 29) : CW (kMorn G v d K) (mornF G d S) := by
  obtain ⟨-, -, -, -, ⟨g3, g4⟩, ⟨g5, g6⟩, -⟩ := id hG
  have h21 := hi.2.2.2.1
  have hv0 := hv.2.1
  have c1 := CKs_come (j := (G 4 0).toNat) hG h hi.1 hv hd hd9 (by omega)
  have d1 := DI_come hG hd hi
  have w1 : CW (it (kCome G v d) (G 4 0).toNat K) (it (comeF G d) (G 4 0).toNat S) := (it2_inv (f := kCome G v d) (g := comeF G d) (n := (G 4 0).toNat) (fun _ K S => (CK K S ∧ IV G S d ∧ VE G v S) ∧ CW K S) ⟨⟨h, hi.1, hv⟩, hw⟩ fun i x y i0 i1 k => ⟨⟨CK_come hG k.1.1 k.1.2.1 k.1.2.2 i0 (by omega) hd hd9, IV_come hG i0 (by omega) hd k.1.2.1, VE_fr k.1.2.2 Fr_come⟩, CW_come hG k.1.1 k.2 k.1.2.1 i0 (by omega) hd hd9⟩).2
  have c2 := CKs_ren (j := (G 4 0).toNat) hG c1.1 d1 c1.2.2 hd hd9 (by omega)
  have w2 := (it2_inv (f := kRen G v d) (g := renF G d) (n := (G 4 0).toNat) (fun _ K S => (CK K S ∧ DI G S d (d + 1) ∧ VE G v S) ∧ CW K S) ⟨⟨c1.1, d1, c1.2.2⟩, w1⟩ fun i x y i0 i1 k => ⟨⟨CK_ren hG k.1.1 k.1.2.1 k.1.2.2 i0 (by omega) hd hd9, ⟨IV_ren hG k.1.2.1.2.2 i0 (by omega) hd k.1.2.1.1 k.1.2.1.2.1, CM_ou k.1.2.1.2.1 (ren_own k.1.2.1.1.1.1), by rw [Fr_ren 18 (by omega)]; exact k.1.2.1.2.2⟩, VE_fr k.1.2.2 Fr_ren⟩, CW_ren hG k.1.1 k.2 k.1.2.1 k.1.2.2 i0 (by omega) hd hd9⟩).2
  have c3 := CKs_mv (j := (G 5 0).toNat) hG c2.1 c2.2.1 c2.2.2 (by omega)
  have w3 := it2_inv (f := kMv G d) (g := mvF G d) (n := (G 5 0).toNat) (fun _ K S => CW K S) w2 fun i x y i0 i1 k => CW_mv hG k i0 (by omega)
  have hv21 := c3.2.2.2.1
  have w4 := (it2_inv (f := kMva v d) (g := mvaF d) (n := (v 21).toNat) (fun _ K S => (DI G S d (d + 1) ∧ VE G v S) ∧ CW K S) ⟨⟨c3.2.1, c3.2.2⟩, w3⟩ fun i x y i0 i1 k => ⟨⟨DI_mva1 hG k.1.1 i0 (by rw [← k.1.2.2.1]; omega), VE_fr k.1.2 Fr_mva⟩, CW_mva k.2 k.1.1 k.1.2 i0 (by omega)⟩).2
  unfold kMorn mornF
  dsimp only
  rw [← hv21]
  exact w4
theorem CW_ev {G K S : oV} {v : Int → Int} {p d : Int} (hG : GW G) (h : CK K S) (hw : CW K S) (hi : DI G S d (d + 1)) (hv : VE G v S) (hp : 0 ≤ p) (hp7 : p < G 4 0) : CW (kEv G v d p K) (evF G d p S) := by
  have hk12 : ∀ b, kEv G v d p K 12 b = K 12 b := fun b => by
    unfold kEv
    dsimp only
    generalize (if hereB G p d = true then kChos G v K p else -2) = x
    split
    · split
      · rw [show ∀ (T : oV) m, kStand G T p 12 m = T 12 m from fun T m => by simp only [kStand_r, Nat.reduceEqDiff, if_false]]
        rw [u1_o (by decide), u1_o (by decide), u1_o (by decide)]
      · rw [u1_o (by decide), u1_o (by decide)]
    · rw [u1_o (by decide)]
  have hk13 : ∀ b, kEv G v d p K 13 b = if 0 ≤ (if hereB G p d = true then kChos G v K p else -2) ∧ b = (if hereB G p d = true then kChos G v K p else -2) then zAdd (K 13 b) (G 14 p) else K 13 b := fun b => by
    unfold kEv
    dsimp only
    generalize (if hereB G p d = true then kChos G v K p else -2) = x
    have e : ∀ m, u1 (u1 K 6 p x) 13 x (zAdd (u1 K 6 p x 13 x) (G 14 p)) 13 m = if m = x then zAdd (K 13 m) (G 14 p) else K 13 m := fun m => by
      simp only [u1_r, if_true, Nat.reduceEqDiff, if_false]
      by_cases q : m = x
      · rw [if_pos q, if_pos q, q]
      · rw [if_neg q, if_neg q]
    split
    · rename_i hx
      have e' : (if 0 ≤ x ∧ b = x then zAdd (K 13 b) (G 14 p) else K 13 b) = if b = x then zAdd (K 13 b) (G 14 p) else K 13 b := by simp [hx]
      rw [e']
      split
      · rw [show ∀ (T : oV) m, kStand G T p 13 m = T 13 m from fun T m => by simp only [kStand_r, Nat.reduceEqDiff, if_false]]
        rw [u1_o (by decide)]
        exact e b
      · exact e b
    · rename_i hx
      rw [if_neg (fun z => hx z.1), u1_o (by decide)]
  have hfr : Fr S (u1 S 34 (7 * d + p) (-2)) := Fr.rf.wu (by omega) (by omega)
  have hus : useF G (u1 S 34 (7 * d + p) (-2)) p = useF G S p := by
    unfold useF
    simp only [kindF_fr hfr, u1_r, Nat.reduceEqDiff, if_false]
  have hs : ∀ b, evF G d p S 26 b = S 26 b ∧ evF G d p S 27 b = if hereB G p d = true ∧ b = useF G S p then zAdd (S 27 b) (G 14 p) else S 27 b := fun b => by
    unfold evF
    try dsimp only
    by_cases hh : hereB G p d = true
    · rw [if_pos hh, brAtF_eq, hus]
      have e27 : ∀ m, u1 (u1 (u1 S 34 (7 * d + p) (-2)) 34 (7 * d + p) (useF G S p)) 27 (useF G S p) (zAdd (u1 S 34 (7 * d + p) (-2) 27 (useF G S p)) (G 14 p)) 27 m = if m = useF G S p then zAdd (S 27 m) (G 14 p) else S 27 m := fun m => by
        simp only [u1_r, if_true, Nat.reduceEqDiff, if_false]
        by_cases q : m = useF G S p
        · rw [if_pos q, if_pos q, q]
        · rw [if_neg q, if_neg q]
      have e26 : ∀ m y, u1 (u1 (u1 S 34 (7 * d + p) (-2)) 34 (7 * d + p) (useF G S p)) 27 (useF G S p) y 26 m = S 26 m := fun m y => by rw [u1_o (by decide), u1_o (by decide), u1_o (by decide)]
      have e' : (if hereB G p d = true ∧ b = useF G S p then zAdd (S 27 b) (G 14 p) else S 27 b) = if b = useF G S p then zAdd (S 27 b) (G 14 p) else S 27 b := by simp [hh]
      rw [e']
      split
      · exact ⟨e26 b _, e27 b⟩
      · simp only [messF_r, Nat.reduceEqDiff, if_false]
        exact ⟨e26 b _, e27 b⟩
    · rw [if_neg hh, if_neg (fun z => hh z.1), u1_o (by decide), u1_o (by decide)]
      exact ⟨rfl, rfl⟩
  intro b b0 b1
  rw [ev_35] at b1
  have := hw b b0 b1
  rw [hk12, hk13, (hs b).1, (hs b).2]
  refine ⟨this.1, ?_⟩
  rw [this.2]
  by_cases hh : hereB G p d = true
  · obtain ⟨i, i0, i1, i2, i3⟩ := hereB_iff.mp hh
    have ho := hi.2.1 p hp hp7 ⟨i, i0, i1, by omega⟩
    have hu := useF_in hG hp hp7 hi.1 ho
    rw [if_pos hh, kChos_eq hG h hi.1 hv hp hp7 ho]
    by_cases q : b = useF G S p
    · rw [if_pos ⟨hu.1, q⟩, if_pos ⟨hh, q⟩]
    · rw [if_neg (fun z => q z.2), if_neg (fun z => q z.2)]
  · rw [if_neg hh, if_neg (by omega), if_neg (fun z => hh z.1)]
theorem CW_e3 {K S T : oV} (h : CW K S) (h26 : T 26 = S 26) (h27 : T 27 = S 27) (h35 : T 35 = S 35) : CW K T := fun b b0 b1 => by
  rw [h26, h27]
  exact h b b0 (by rw [← h35]; exact b1)
theorem CW_go {G K S : oV} {p d : Int} (hw : CW K S) : CW (kGo G d p K) (goF G d p S) := fun b b0 b1 => by
  have e : ∀ m, goF G d p S 26 m = S 26 m ∧ goF G d p S 27 m = S 27 m ∧ goF G d p S 35 m = S 35 m := fun m => by
    simp only [goF_r, Nat.reduceEqDiff, if_false]
    split <;> exact ⟨rfl, rfl, rfl⟩
  have e2 : ∀ m, kGo G d p K 12 m = K 12 m ∧ kGo G d p K 13 m = K 13 m := fun m => by
    unfold kGo
    split
    · rw [u1_o (by decide), u1_o (by decide)]
      simp only [kLift_r, Nat.reduceEqDiff, if_false, and_self]
    · exact ⟨rfl, rfl⟩
  rw [(e b).1, (e b).2.1, (e2 b).1, (e2 b).2]
  exact hw b b0 (by rw [← (e 0).2.2]; exact b1)
theorem CW_day {G K D S : oV} {v : Int → Int} {d : Int} (hG : GW G) (h : CK K S) (hw : CW K S) (hi : DI G S d d) (hv : VE G v S) (hm : S 36 0 = -1) (hd : 0 ≤ d) (hd9 : d ≤ 29) : CW (kDay G v d (K, D)).1 (dayF G d S) := by
  have h47 := hG.2.2.2.2.1
  have d1 := DI_morn hG hd hi
  have c1 := CK_morn hG h hi hv hd hd9
  have w1 := CW_morn hG h hw hi hv hd hd9
  have w2 : CW (kEven G v d (kMorn G v d K)) (evenF G d (mornF G d S)) := (it2_inv (f := kEv G v d) (g := evF G d) (n := (G 4 0).toNat) (fun _ K S => (CK K S ∧ DI G S d (d + 1) ∧ VE G v S) ∧ CW K S) ⟨⟨c1, d1, VE_fr hv Fr_morn⟩, w1⟩ fun i x y i0 i1 k => ⟨⟨CK_ev hG k.1.1 k.1.2.1 k.1.2.2 i0 (by omega), DI_ev1 hG k.1.2.1 i0 (by omega), VE_fr k.1.2.2 Fr_ev⟩, CW_ev hG k.1.1 k.2 k.1.2.1 k.1.2.2 i0 (by omega)⟩).2
  rw [dayF_eq hm hd]
  have w3 : CW (kEven G v d (kMorn G v d K)) (noteF d (evenF G d (mornF G d S))) := by
    refine CW_e3 w2 ?_ ?_ ?_ <;> funext m <;> simp only [noteF_r, Nat.reduceEqDiff, if_false]
  exact it2_inv (f := kGo G d) (g := goF G d) (n := (G 4 0).toNat) (fun _ K S => CW K S) w3 fun i x y i0 i1 k => CW_go k
/-- all that the class's diary and course hold behind all days, against the reference's fields R -/
def DY (G K D R : oV) : Prop := CK K R ∧ CW K R ∧ DE G D R (G 0 0) ∧ RG G R (G 0 0) ∧ DC G D R (G 0 0) ∧ DM G D R (G 0 0) ∧ IV G R (G 0 0)
theorem DY_run {G K D S : oV} {v : Int → Int} {g w : Nat} (hG : GW G) (hvw : VW G (S 18)) (hm : S 36 0 = -1) (hv : VE G v S) : DY G (kWr G v g w K D (G 0 0).toNat).1 (kWr G v g w K D (G 0 0).toNat).2 (runF G S) := by
  have h0 := hG.1
  have e : (((G 0 0).toNat : Nat) : Int) = G 0 0 := by omega
  have key := it2_inv (f := kDay G v) (g := dayF G) (n := (G 0 0).toNat) (s := (kBeg K g w, dia0 D)) (t := run0 S) (fun i X T => (CK X.1 T ∧ DI G T i i ∧ VE G v T ∧ T 36 0 = -1) ∧ (DE G X.2 T i ∧ RG G T i) ∧ CW X.1 T ∧ DC G X.2 T i ∧ DM G X.2 T i) ⟨⟨CK_beg, DI_run0 hG hvw, VE_fr hv Fr_run0, by rw [Fr_run0 36 (by omega)]; exact hm⟩, ⟨fun d d0 d1 => by omega, fun d d0 d1 => by omega⟩, fun b b0 b1 => by simp only [run0_r, if_true] at b1; omega, ?_, ?_⟩ ?_
  · rw [e] at key
    obtain ⟨⟨k1, k2, k3, k4⟩, ⟨k5, k6⟩, k7, k8, k9⟩ := key
    exact ⟨k1, k7, k5, k6, k8, k9, k2.1⟩
  · show DC G (dia0 D) (run0 S) 0
    unfold dia0
    refine ⟨fun d d0 d1 => by omega, by simp [s1, sF, sm], fun q => ?_, fun q => ?_, by simp [s1, sF, fst1]⟩
    · have : (if 0 ≤ q ∧ q < G 4 0 then cnt (0 : Int).toNat (fun d => isSh (run0 S) d q) else 0) = 0 := by split <;> rfl
      rw [this]
      simp [s1, sF]
    · simp [s1, sF, sm]
  · show DM G (dia0 D) (run0 S) 0
    unfold dia0
    refine ⟨fun d d0 d1 => by omega, by simp [s1, sF, cnt], by simp [s1, sF], fun d x d0 d1 => by omega, Or.inl (by simp [s1, sF])⟩
  · rintro i ⟨x1, x2⟩ y i0 i1 ⟨⟨k1, k2, k3, k4⟩, ⟨k5, k6⟩, k7, k8, k9⟩
    exact ⟨⟨CK_day hG k1 k2 k3 k4 i0 (by omega), DI_mono (DI_day hG i0 (Or.inl k4) k2) (by omega), VE_fr k3 Fr_day, by rw [Fr_day 36 (by omega)]; exact k4⟩, ⟨DE_day hG k1 k2 k3 k4 i0 (by omega) k5, RG_day hG k6 k2 k4 i0⟩, CW_day hG k1 k7 k2 k3 k4 i0 (by omega), DC_day hG k1 k2 k3 k4 i0 (by omega) k6 k8, DM_day hG k1 k2 k3 k4 i0 (by omega) k6 k9⟩
