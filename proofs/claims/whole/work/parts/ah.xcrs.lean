/-! EXPLANATIONS in the class: save, restore, isRight, endsRight -/
def KA (K T : oV) : Prop := T 14 = K 14 ∧ T 15 = K 15
theorem KA.rf {K : oV} : KA K K := ⟨rfl, rfl⟩
theorem KA.tr {K T U : oV} (h : KA K T) (h' : KA T U) : KA K U := ⟨h'.1.trans h.1, h'.2.trans h.2⟩
theorem KA.wu {K T : oV} {k : Nat} {i x : Int} (h : KA K T) (hk : k < 14) : KA K (u1 T k i x) := ⟨by rw [u1_o (by omega)]; exact h.1, by rw [u1_o (by omega)]; exact h.2⟩
theorem KA.ws {K T : oV} {k : Nat} {x : Int} (h : KA K T) (hk : k < 14) : KA K (s1 T k x) := ⟨by rw [s1_o (by omega)]; exact h.1, by rw [s1_o (by omega)]; exact h.2⟩
theorem KA.wf {K T : oV} {k : Nat} {f : Int → Int} (h : KA K T) (hk : k < 14) : KA K (sF T k f) := ⟨by rw [sF_ne (by omega)]; exact h.1, by rw [sF_ne (by omega)]; exact h.2⟩
theorem KA_stand {G K : oV} {p : Int} : KA K (kStand G K p) := by
  unfold kStand
  split
  · exact ((KA.rf.wu (by omega)).wu (by omega)).wu (by omega)
  · exact KA.rf.wu (by omega)
theorem KA_lift {K : oV} {p : Int} : KA K (kLift K p) := by
  unfold kLift
  split
  · exact KA.rf.wu (by omega)
  · exact KA.rf
theorem KA_pick {G K : oV} {v : Int → Int} {p : Int} : KA K (kPickK G v K p) := by
  unfold kPickK
  split
  · exact KA.rf
  · exact KA.rf.wf (by omega)
theorem KA_buy {G K : oV} {v : Int → Int} {p d : Int} : KA K (kBuy G v K p d) := by
  unfold kBuy
  split
  · exact KA.rf
  · dsimp only
    refine KA.wu (KA.tr ?_ KA_stand) (by omega)
    refine ((((KA.wu (KA.tr ?_ KA_pick) (by omega)).wu (by omega)).wu (by omega)).wu (by omega)).wu (by omega)
    exact (KA.rf.ws (by omega)).wu (by omega)
theorem KA_exch {K : oV} {x y : Int} : KA K (kExch K x y) := by
  unfold kExch
  dsimp only
  have h1 : KA K (u1 (u1 K 2 x (K 2 y)) 2 y (K 2 x)) := (KA.rf.wu (by omega)).wu (by omega)
  generalize u1 (u1 K 2 x (K 2 y)) 2 y (K 2 x) = K1 at h1
  have h2 : KA K (if 0 ≤ K1 2 x then u1 K1 4 (K1 9 (K1 2 x)) x else K1) := by
    split
    · exact h1.wu (by omega)
    · exact h1
  generalize (if 0 ≤ K1 2 x then u1 K1 4 (K1 9 (K1 2 x)) x else K1) = K2 at h2
  split
  · exact h2.wu (by omega)
  · exact h2
theorem KA_in {G K : oV} {v : Int → Int} {p d : Int} : KA K (kIn G v K p d) := by
  unfold kIn
  split
  · exact KA_buy
  · split
    · exact KA_stand.wu (by omega)
    · exact KA.rf
theorem KA_rew {G K : oV} {v : Int → Int} {p d : Int} : KA K (kRew G v K p d) := by
  unfold kRew
  split
  · exact KA.tr (KA.wu (KA.tr (KA.rf.wu (by omega)) KA_lift) (by omega)) KA_buy
  · exact KA.rf
theorem KA_come {G K : oV} {v : Int → Int} {d p : Int} : KA K (kCome G v d p K) := by
  unfold kCome
  split
  · exact KA_in
  · exact KA.rf
theorem KA_ren {G K : oV} {v : Int → Int} {d p : Int} : KA K (kRen G v d p K) := by
  unfold kRen
  split
  · exact KA_rew
  · exact KA.rf
theorem KA_mv {G K : oV} {d k : Int} : KA K (kMv G d k K) := by
  unfold kMv
  split
  · exact KA_exch
  · exact KA.rf
theorem KA_mva {K : oV} {v : Int → Int} {d k : Int} : KA K (kMva v d k K) := by
  unfold kMva
  split
  · exact KA_exch
  · exact KA.rf
theorem KA.wi {K T : oV} {f : Int → oV → oV} {n : Nat} (h : KA K T) (hf : ∀ j U, KA U (f j U)) : KA K (it f n T) := by
  induction n with
  | zero => exact h
  | succ n ih => exact ih.tr (hf _ _)
theorem KA_morn {G K : oV} {v : Int → Int} {d : Int} : KA K (kMorn G v d K) := KA.wi (KA.wi (KA.wi (KA.wi KA.rf fun _ _ => KA_come) fun _ _ => KA_ren) fun _ _ => KA_mv) fun _ _ => KA_mva
theorem KA_ev {G K : oV} {v : Int → Int} {d p : Int} : KA K (kEv G v d p K) := by
  unfold kEv
  dsimp only
  generalize (if hereB G p d = true then kChos G v K p else -2) = x
  have h1 : KA K (u1 K 6 p x) := KA.rf.wu (by omega)
  generalize u1 K 6 p x = K1 at h1
  split
  · have h2 : KA K (u1 K1 13 x (zAdd (K1 13 x) (G 14 p))) := h1.wu (by omega)
    generalize u1 K1 13 x (zAdd (K1 13 x) (G 14 p)) = K2 at h2
    split
    · exact (h2.wu (by omega)).tr KA_stand
    · exact h2
  · exact h1
theorem KA_even {G K : oV} {v : Int → Int} {d : Int} : KA K (kEven G v d K) := KA.wi KA.rf fun _ _ => KA_ev
theorem KA_go {G K : oV} {d p : Int} : KA K (kGo G d p K) := by
  unfold kGo
  split
  · exact KA_lift.wu (by omega)
  · exact KA.rf
theorem KA_night {G K : oV} {d : Int} : KA K (kNight G d K) := KA.wi KA.rf fun _ _ => KA_go
theorem kExch_o {K : oV} {x y : Int} {k : Nat} (h2 : k ≠ 2) (h4 : k ≠ 4) : kExch K x y k = K k := by
  unfold kExch
  try dsimp only
  have h1 : u1 (u1 K 2 x (K 2 y)) 2 y (K 2 x) k = K k := by rw [u1_o h2, u1_o h2]
  generalize u1 (u1 K 2 x (K 2 y)) 2 y (K 2 x) = K1 at h1
  have h3 : (if 0 ≤ K1 2 x then u1 K1 4 (K1 9 (K1 2 x)) x else K1) k = K k := by
    split
    · rw [u1_o h4]; exact h1
    · exact h1
  generalize (if 0 ≤ K1 2 x then u1 K1 4 (K1 9 (K1 2 x)) x else K1) = K2 at h3
  split
  · rw [u1_o h4]; exact h3
  · exact h3
/-- what is saved of a course -/
def SV (K S : oV) : Prop := K 15 0 = S 35 0 ∧ (∀ k, 0 ≤ k → k < 8 → K 14 k = S 31 k) ∧ ∀ p, 0 ≤ p → p < 7 → K 14 (8 + p) = S 28 p ∧ K 14 (15 + p) = (if S 29 p = 10 then -2 else S 29 p) ∧ K 14 (22 + p) = (if S 30 p = -2 then 8 else S 30 p)
theorem SV_ka {K K' S : oV} (h : SV K S) (ha : KA K K') : SV K' S := by
  unfold SV
  rw [ha.1, ha.2]
  exact h
theorem CK_ag {K K' S : oV} (h : CK K S) (ha : ∀ k, k ≠ 14 → k ≠ 15 → K' k = K k) : CK K' S := by
  unfold CK
  rw [ha 8 (by decide) (by decide), ha 2 (by decide) (by decide), ha 3 (by decide) (by decide), ha 4 (by decide) (by decide), ha 5 (by decide) (by decide), ha 9 (by decide) (by decide), ha 10 (by decide) (by decide), ha 11 (by decide) (by decide)]
  exact h
section SR
variable {c : cT} {V : Mem} {a : Nat} {R : Option gAV → cT → Mem → Prop}
theorem cc_7 {S : oV} (ha : mcl c.1 a = some 0) (hck : CK (V a) S) (hq : ∀ K', (∀ k, k ≠ 14 → k ≠ 15 → K' k = V a k) → SV K' S → R none c (sO V a K')) : CC 1 7 [vR (some a)] c V R := by
  obtain ⟨K, hK⟩ : ∃ K, K = V a := ⟨_, rfl⟩
  refine CC_of mt_7 gb_7 (by decide) (by decide) (rcb_o ha) (Nat.le_of_ble_eq_true rfl) fun n dd hn hd => ?_
  show WW (bX0_save (gOr n dd)) n [some (vR (some (a)))] _ _ _
  unfold bX0_save
  have hn0 : 1000000000 ≤ n := hn
  obtain ⟨f1, hf1⟩ : ∃ f : Int → Int, f = gCpy (V a 2) (V a 14) 0 0 8 := ⟨_, rfl⟩
  refine WW_se (WW_se (WW_cp (ty := 0) (a := a) (ci := 0) (k := 2) (p := 1) (N := 8) (a2 := a) (c2 := 0) (k2 := 14) (p2 := 12) (N2 := 29) (f := f1) (PE_fA rfl (by decide) (PE_lR rfl) ha) ha rfl (by decide) PE_kI (PE_fA rfl (by decide) (PE_lR rfl) ha) ha rfl PE_kI PE_kI (by omega) (by decide) (by decide) (by decide) (by decide) (by decide) (fun j _ _ => by rw [hf1]) (SQ_n ?_)))
  obtain ⟨f2, hf2⟩ : ∃ f : Int → Int, f = gCpy (V a 3) (f1) 0 8 7 := ⟨_, rfl⟩
  refine WW_se (WW_cp (ty := 0) (a := a) (ci := 0) (k := 3) (p := 2) (N := 7) (a2 := a) (c2 := 0) (k2 := 14) (p2 := 12) (N2 := 29) (f := f2) (PE_fA rfl (by decide) (PE_lR rfl) ha) ha rfl (by decide) PE_kI (PE_fA rfl (by decide) (PE_lR rfl) ha) ha rfl PE_kI PE_kI (by omega) (by decide) (by decide) (by decide) (by decide) (by decide) (fun j _ _ => by rw [sM_k (by decide), sM_at, hf2]) (SQ_n ?_))
  rw [sM_sM]
  obtain ⟨f3, hf3⟩ : ∃ f : Int → Int, f = gCpy (V a 4) (f2) 0 15 7 := ⟨_, rfl⟩
  refine WW_se (WW_cp (ty := 0) (a := a) (ci := 0) (k := 4) (p := 3) (N := 7) (a2 := a) (c2 := 0) (k2 := 14) (p2 := 12) (N2 := 29) (f := f3) (PE_fA rfl (by decide) (PE_lR rfl) ha) ha rfl (by decide) PE_kI (PE_fA rfl (by decide) (PE_lR rfl) ha) ha rfl PE_kI PE_kI (by omega) (by decide) (by decide) (by decide) (by decide) (by decide) (fun j _ _ => by rw [sM_k (by decide), sM_at, hf3]) (SQ_n ?_))
  rw [sM_sM]
  obtain ⟨f4, hf4⟩ : ∃ f : Int → Int, f = gCpy (V a 5) (f3) 0 22 7 := ⟨_, rfl⟩
  refine WW_se (WW_cp (ty := 0) (a := a) (ci := 0) (k := 5) (p := 4) (N := 7) (a2 := a) (c2 := 0) (k2 := 14) (p2 := 12) (N2 := 29) (f := f4) (PE_fA rfl (by decide) (PE_lR rfl) ha) ha rfl (by decide) PE_kI (PE_fA rfl (by decide) (PE_lR rfl) ha) ha rfl PE_kI PE_kI (by omega) (by decide) (by decide) (by decide) (by decide) (by decide) (fun j _ _ => by rw [sM_k (by decide), sM_at, hf4]) (SQ_n ?_))
  rw [sM_sM]
  refine WW_pf rfl (PE_lR rfl) ha (PE_fI rfl (PE_lR rfl) ha) (SQ_n (WW_rtV ⟨_, rfl, rfl, ?_⟩))
  have e8 : sM V a 14 f4 a 8 0 = V a 8 0 := by rw [sM_k (by decide)]
  have em : sM (sM V a 14 f4) a 15 (fun _ => sM V a 14 f4 a 8 0) = sO V a (sF (sF (V a) 14 f4) 15 (fun _ => V a 8 0)) := by
    rw [e8]
    simp only [sM, sO_sO, sO_at]
  rw [em]
  refine hq _ (fun k k1 k2 => by rw [sF_ne k2, sF_ne k1]) ⟨?_, fun k k0 k1 => ?_, fun p p0 p1 => ?_⟩
  · rw [sF_at]; exact hck.1
  · rw [sF_ne (by decide), sF_at, ← hck.2.1 k k0 k1, hf4, hf3, hf2, hf1]
    unfold gCpy
    rw [if_neg (by omega), if_neg (by omega), if_neg (by omega), if_pos (by omega)]
    congr 1
    omega
  · obtain ⟨x1, x2, x3⟩ := hck.2.2.1 p p0 p1
    rw [sF_ne (by decide), sF_at, ← x1, ← x2, ← x3, hf4, hf3, hf2, hf1]
    unfold gCpy
    refine ⟨?_, ?_, ?_⟩
    · rw [if_neg (by omega), if_neg (by omega), if_pos (by omega)]
      congr 1
      omega
    · rw [if_neg (by omega), if_pos (by omega)]
      congr 1
      omega
    · rw [if_pos (by omega)]
      congr 1
      omega
theorem cc_8 {S : oV} (ha : mcl c.1 a = some 0) (hs : SV (V a) S) (hb : ∀ b, 0 ≤ b → b < S 35 0 → V a 9 b = S 23 b ∧ V a 10 b = S 24 b ∧ V a 11 b = S 25 b) (hq : ∀ K', (∀ k, k ≠ 2 → k ≠ 3 → k ≠ 4 → k ≠ 5 → k ≠ 8 → K' k = V a k) → CK K' S → R none c (sO V a K')) : CC 1 8 [vR (some a)] c V R := by
  refine CC_of mt_8 gb_8 (by decide) (by decide) (rcb_o ha) (Nat.le_of_ble_eq_true rfl) fun n dd hn hd => ?_
  show WW (bX0_restore (gOr n dd)) n [some (vR (some (a)))] _ _ _
  unfold bX0_restore
  have hn0 : 1000000000 ≤ n := hn
  obtain ⟨f1, hf1⟩ : ∃ f : Int → Int, f = gCpy (V a 14) (V a 2) 0 0 8 := ⟨_, rfl⟩
  refine WW_se (WW_se (WW_cp (ty := 0) (a := a) (ci := 0) (k := 14) (p := 12) (N := 29) (a2 := a) (c2 := 0) (k2 := 2) (p2 := 1) (N2 := 8) (f := f1) (PE_fA rfl (by decide) (PE_lR rfl) ha) ha rfl (by decide) PE_kI (PE_fA rfl (by decide) (PE_lR rfl) ha) ha rfl PE_kI PE_kI (by omega) (by decide) (by decide) (by decide) (by decide) (by decide) (fun j _ _ => by rw [hf1]) (SQ_n ?_)))
  obtain ⟨f2, hf2⟩ : ∃ f : Int → Int, f = gCpy (V a 14) (V a 3) 8 0 7 := ⟨_, rfl⟩
  refine WW_se (WW_cp (ty := 0) (a := a) (ci := 0) (k := 14) (p := 12) (N := 29) (a2 := a) (c2 := 0) (k2 := 3) (p2 := 2) (N2 := 7) (f := f2) (PE_fA rfl (by decide) (PE_lR rfl) ha) ha rfl (by decide) PE_kI (PE_fA rfl (by decide) (PE_lR rfl) ha) ha rfl PE_kI PE_kI (by omega) (by decide) (by decide) (by decide) (by decide) (by decide) (fun j _ _ => by rw [sM_k (by decide), sM_k (by decide), hf2]) (SQ_n ?_))
  obtain ⟨f3, hf3⟩ : ∃ f : Int → Int, f = gCpy (V a 14) (V a 4) 15 0 7 := ⟨_, rfl⟩
  refine WW_se (WW_cp (ty := 0) (a := a) (ci := 0) (k := 14) (p := 12) (N := 29) (a2 := a) (c2 := 0) (k2 := 4) (p2 := 3) (N2 := 7) (f := f3) (PE_fA rfl (by decide) (PE_lR rfl) ha) ha rfl (by decide) PE_kI (PE_fA rfl (by decide) (PE_lR rfl) ha) ha rfl PE_kI PE_kI (by omega) (by decide) (by decide) (by decide) (by decide) (by decide) (fun j _ _ => by rw [sM_k (by decide), sM_k (by decide), sM_k (by decide), sM_k (by decide), hf3]) (SQ_n ?_))
  obtain ⟨f4, hf4⟩ : ∃ f : Int → Int, f = gCpy (V a 14) (V a 5) 22 0 7 := ⟨_, rfl⟩
  refine WW_se (WW_cp (ty := 0) (a := a) (ci := 0) (k := 14) (p := 12) (N := 29) (a2 := a) (c2 := 0) (k2 := 5) (p2 := 4) (N2 := 7) (f := f4) (PE_fA rfl (by decide) (PE_lR rfl) ha) ha rfl (by decide) PE_kI (PE_fA rfl (by decide) (PE_lR rfl) ha) ha rfl PE_kI PE_kI (by omega) (by decide) (by decide) (by decide) (by decide) (by decide) (fun j _ _ => by rw [sM_k (by decide), sM_k (by decide), sM_k (by decide), sM_k (by decide), sM_k (by decide), sM_k (by decide), hf4]) (SQ_n ?_))
  refine WW_pf rfl (PE_lR rfl) ha (PE_fI rfl (PE_lR rfl) ha) (SQ_n (WW_rtV ⟨_, rfl, rfl, ?_⟩))
  have e8 : sM (sM (sM (sM V a 2 f1) a 3 f2) a 4 f3) a 5 f4 a 15 0 = V a 15 0 := by rw [sM_k (by decide), sM_k (by decide), sM_k (by decide), sM_k (by decide)]
  obtain ⟨K', hK'⟩ : ∃ K', K' = sF (sF (sF (sF (sF (V a) 2 f1) 3 f2) 4 f3) 5 f4) 8 (fun _ => V a 15 0) := ⟨_, rfl⟩
  have em : sM (sM (sM (sM (sM V a 2 f1) a 3 f2) a 4 f3) a 5 f4) a 8 (fun _ => sM (sM (sM (sM V a 2 f1) a 3 f2) a 4 f3) a 5 f4 a 15 0) = sO V a K' := by
    rw [e8, hK']
    simp only [sM, sO_sO, sO_at]
  rw [em]
  have q2 : K' 2 = f1 := by rw [hK', sF_ne (by decide), sF_ne (by decide), sF_ne (by decide), sF_ne (by decide), sF_at]
  have q3 : K' 3 = f2 := by rw [hK', sF_ne (by decide), sF_ne (by decide), sF_ne (by decide), sF_at]
  have q4 : K' 4 = f3 := by rw [hK', sF_ne (by decide), sF_ne (by decide), sF_at]
  have q5 : K' 5 = f4 := by rw [hK', sF_ne (by decide), sF_at]
  have q8 : K' 8 0 = V a 15 0 := by rw [hK', sF_at]
  have qo : ∀ k, k ≠ 2 → k ≠ 3 → k ≠ 4 → k ≠ 5 → k ≠ 8 → K' k = V a k := fun k k2 k3 k4 k5 k8 => by rw [hK', sF_ne k8, sF_ne k5, sF_ne k4, sF_ne k3, sF_ne k2]
  refine hq K' qo ⟨?_, fun k k0 k1 => ?_, fun p p0 p1 => ⟨?_, ?_, ?_⟩, fun b b0 b1 => ?_⟩
  · rw [q8]; exact hs.1
  · rw [q2, ← hs.2.1 k k0 k1, hf1]
    unfold gCpy
    rw [if_pos (by omega)]
    congr 1
    omega
  · rw [q3, ← (hs.2.2 p p0 p1).1, hf2]
    unfold gCpy
    rw [if_pos (by omega)]
    congr 1
    omega
  · rw [q4, ← (hs.2.2 p p0 p1).2.1, hf3]
    unfold gCpy
    rw [if_pos (by omega)]
    congr 1
    omega
  · rw [q5, ← (hs.2.2 p p0 p1).2.2, hf4]
    unfold gCpy
    rw [if_pos (by omega)]
    congr 1
    omega
  · rw [qo 9 (by decide) (by decide) (by decide) (by decide) (by decide), qo 10 (by decide) (by decide) (by decide) (by decide) (by decide), qo 11 (by decide) (by decide) (by decide) (by decide) (by decide)]
    exact hb b b0 b1
end SR
section RI
variable {c : cT} {V : Mem} {g : Nat} {G : oV}
theorem pc_33 {d : Int} (hg : mcl c.1 g = some 4) (hgr : GR V g G) (hG : GW G) (hs : ∀ k, 0 ≤ k → k < 8 → V 280 2 k < 70) : PC 2 33 [vR (some 279), vR (some g), vI d] c V (some (vB (rgt G (kTint (V 280)) d))) := by
  obtain ⟨-, y1, -, -, -, -, y6, -⟩ := id hG
  have e1 : V g 1 0 = G 1 0 := hgr.1.2.1
  have e6 : V g 10 0 = G 6 0 := hgr.1.2.2.2.2.2.2.1
  refine PC_of ?_
  refine CC_of mt_33 gb_33 (by decide) (by decide) (rcb_o k_279) (Nat.le_of_ble_eq_true rfl) fun n dd hn hd => ?_
  show WW (bX3_isRight (gOr n dd)) n [some (vR (some (279))), some (vR (some (g))), some (vI (d)), none, none] _ _ _
  unfold bX3_isRight
  have hn0 : 1000000000 ≤ n := hn
  refine WW_se (WW_se (WW_st PE_kI (SQ_n ?_)))
  refine WW_for 900000000 0 (G 6 0) (fun j L1 c1 V1 => ∃ z4 : Option gAV, L1 = [some (vR (some 279)), some (vR (some g)), some (vI d), some (vI j), z4] ∧ c1 = c ∧ V1 = V ∧ ∀ s k : Int, 0 ≤ s → s < j → G 22 s = d → 0 ≤ k → k < G 1 0 → kTint (V 280) k = G 23 (8 * s + k)) (by omega) (by omega) (by omega) (by omega) ⟨none, rfl, rfl, rfl, fun s k s0 s1 => by omega⟩ ?_ ?_ ?_
  · rintro j _ c V j0 j1 ⟨z4, rfl, rfl, rfl, hj⟩
    exact ⟨rfl, PE_g1 rfl hg rfl e6⟩
  · rintro j k' _ c V j0 j1 hk' ⟨z4, rfl, rfl, rfl, hj⟩
    obtain ⟨s1', s2'⟩ := hgr.2.2.1 j j0 j1
    refine WW_se (WW_st PE_kI (SQ_n ?_))
    have p11 : ∀ {L : gLo}, L[1]? = some (some (vR (some g))) → L[3]? = some (some (vI j)) → PE (aI 0 (fR 4 11 (lR 1)) (lI 3)) L c V (G 22 j) := fun {L} h1 h3 => by
      have := PE_aF (ty := 0) (ci := 4) (k := 11) (c := c) (V := V) (L := L) rfl (by decide) (PE_lR h1) hg (PE_lI h3) j0 (by omega)
      rwa [s1'] at this
    refine WW_wh 800000000 (fun r L1 c1 V1 => ∃ k : Int, 0 ≤ k ∧ k ≤ G 1 0 ∧ r = (G 1 0 - k).toNat ∧ L1 = [some (vR (some 279)), some (vR (some g)), some (vI d), some (vI j), some (vI k)] ∧ c1 = c ∧ V1 = V ∧ ∀ q : Int, 0 ≤ q → q < k → G 22 j = d → kTint (V 280) q = G 23 (8 * j + q)) ?_ (G 1 0 - 0).toNat _ _ _ _ (by omega) ⟨0, by omega, by omega, rfl, rfl, rfl, rfl, fun q q0 q1 => by omega⟩
    rintro r k2 _ c V hk2 ⟨k, k0, k1, rfl, rfl, rfl, rfl, hk⟩
    have hcond := PE_and (PE_cm (op := .lt) (PE_lI (i := 4) (L := [some (vR (some 279)), some (vR (some g)), some (vI d), some (vI j), some (vI k)]) (c := c) (V := V) rfl) (PE_g1 (i := 1) rfl hg rfl e1)) (fun _ => PE_cm (op := .eq) (p11 rfl rfl) (PE_lI (i := 2) rfl))
    refine EE_pe hcond ⟨fun hb => ?_, fun hb => ?_⟩
    · rw [Bool.and_eq_true] at hb
      have hk8 : k < G 1 0 := of_decide_eq_true hb.1
      have hd : G 22 j = d := of_decide_eq_true hb.2
      have p6 : PE (cI (gOr n dd) 6 (aCR (fR 3 0 (lR 0)) (aCI (lI 4) (a0)))) [some (vR (some 279)), some (vR (some g)), some (vI d), some (vI j), some (vI k)] c V (kTint (V 280) k) := PE_cI (PE_aCR (PE_fC rfl (PE_lR (i := 0) rfl) k_279) (PE_aCI (PE_lI (i := 4) rfl) PE_a0)) hn (pc_6 (a := 280) k_280 k0 (by omega) (hs k k0 (by omega))) (by omega)
      have ei : zAdd (zMul j 8) k = 8 * j + k := by rw [zMul_id (by omega) (by omega), zAdd_id (by omega) (by omega)]; omega
      have p12 := PE_aF (ty := 0) (ci := 4) (k := 12) (c := c) (V := V) (L := [some (vR (some 279)), some (vR (some g)), some (vI d), some (vI j), some (vI k)]) rfl (by decide) (PE_lR (i := 1) rfl) hg (PE_o2 (f := zAdd) (PE_o2 (f := zMul) (PE_lI (i := 3) rfl) (PE_kI (z := 8))) (PE_lI (i := 4) rfl)) (by rw [ei]; omega) (by rw [ei]; omega)
      rw [ei, s2' k k0 hk8] at p12
      refine WW_if (PE_cm p6 p12) (fun hb2 => ?_) (fun hb2 => ?_)
      · have hne : ¬ kTint (V 280) k = G 23 (8 * j + k) := of_decide_eq_true hb2
        have ef : rgt G (kTint (V 280)) d = false := by
          cases hr : rgt G (kTint (V 280)) d
          · rfl
          · exact absurd (rgt_iff.mp hr j k j0 j1 hd k0 hk8) hne
        rw [ef]
        exact WW_rtB PE_kB (LQ_r (LQ_r ⟨_, rfl, rfl, rfl, rfl, rfl⟩))
      · have he : kTint (V 280) k = G 23 (8 * j + k) := Classical.not_not.mp (of_decide_eq_false hb2)
        refine WW_sk (LQ_n (WW_in rfl ⟨rfl, (G 1 0 - (k + 1)).toNat, by omega, k + 1, by omega, by omega, rfl, ?_, rfl, rfl, fun q q0 q1 hq => ?_⟩))
        · rw [zAdd_id (by omega) (by omega)]
          rfl
        · by_cases e : q = k
          · rw [e]; exact he
          · exact hk q q0 (by omega) hq
    · refine LQ_n ⟨rfl, _, rfl, rfl, rfl, fun s q s0 s1 hsd q0 q1 => ?_⟩
      by_cases e : s = j
      · subst e
        have hkP : k = G 1 0 := by
          rw [Bool.and_eq_false_iff] at hb
          rcases hb with hb | hb
          · have : ¬ k < G 1 0 := of_decide_eq_false hb
            omega
          · exact absurd hsd (of_decide_eq_false hb)
        exact hk q q0 (by omega) hsd
      · exact hj s q s0 (by omega) hsd q0 q1
  · rintro _ c V ⟨z4, rfl, rfl, rfl, hj⟩
    have et : rgt G (kTint (V 280)) d = true := rgt_iff.mpr fun s k s0 s1 hsd k0 k1 => hj s k s0 s1 hsd k0 k1
    rw [et]
    exact SQ_n (WW_rtB PE_kB ⟨_, rfl, rfl, rfl, rfl, rfl⟩)
/-- the last day of a seeing -/
def lstF (G : oV) (n : Nat) : Int := it (fun s m => if m < G 22 s then G 22 s else m) n (-1)
theorem lstF_b {G : oV} (hG : GW G) : ∀ {n : Nat}, (n : Int) ≤ G 6 0 → (-1 ≤ lstF G n ∧ lstF G n < G 0 0) ∧ ∀ s : Int, 0 ≤ s → s < n → G 22 s ≤ lstF G n
  | 0, _ => ⟨⟨by show (-1 : Int) ≤ -1; omega, by have := hG.1; show (-1 : Int) < _; omega⟩, fun s s0 s1 => by omega⟩
  | n + 1, hn => by
    have ih := lstF_b hG (n := n) (by omega)
    have y := hG.2.2.2.2.2.2.2.2.2.2.2.2.1 n (by omega) (by omega)
    have e : lstF G (n + 1) = if lstF G n < G 22 n then G 22 n else lstF G n := rfl
    rw [e]
    refine ⟨by split <;> omega, fun s s0 s1 => ?_⟩
    by_cases q : s = n
    · rw [q]; split <;> omega
    · have := ih.2 s s0 (by omega)
      split <;> omega
theorem pc_38 (hg : mcl c.1 g = some 4) (hgr : GR V g G) (hG : GW G) : PC 1 38 [vR (some g)] c V (some (vI (lstF G (G 6 0).toNat))) := by
  have y6 := hG.2.2.2.2.2.2.1
  have e6 : V g 10 0 = G 6 0 := hgr.1.2.2.2.2.2.2.1
  refine PC_of ?_
  refine CC_of mt_38 gb_38 (by decide) (by decide) (rcb_o hg) (Nat.le_of_ble_eq_true rfl) fun n dd hn hd => ?_
  show WW (bX4_lastSeenDay (gOr n dd)) n [some (vR (some (g))), none, none] _ _ _
  unfold bX4_lastSeenDay
  have hn0 : 1000000000 ≤ n := hn
  refine WW_se (WW_st PE_kI (SQ_n (WW_se (WW_se (WW_st PE_kI (SQ_n ?_))))))
  refine WW_for 900000000 0 (G 6 0) (fun j L1 c1 V1 => L1 = [some (vR (some g)), some (vI (lstF G j.toNat)), some (vI j)] ∧ c1 = c ∧ V1 = V) (by omega) (by omega) (by omega) (by omega) ⟨rfl, rfl, rfl⟩ ?_ ?_ ?_
  · rintro j _ c V j0 j1 ⟨rfl, rfl, rfl⟩
    exact ⟨rfl, PE_g1 rfl hg rfl e6⟩
  · rintro j k' _ c V j0 j1 hk' ⟨rfl, rfl, rfl⟩
    have s1' := (hgr.2.2.1 j j0 j1).1
    have p11 := PE_aF (ty := 0) (ci := 4) (k := 11) (c := c) (V := V) (L := [some (vR (some g)), some (vI (lstF G j.toNat)), some (vI j)]) rfl (by decide) (PE_lR (i := 0) rfl) hg (PE_lI (i := 2) rfl) j0 (by omega)
    rw [s1'] at p11
    have nx : lstF G (j + 1).toNat = if lstF G j.toNat < G 22 j then G 22 j else lstF G j.toNat := it_s j0
    refine WW_st (PE_o2 (PE_lI rfl) p11) (LQ_n ⟨rfl, ?_, rfl, rfl⟩)
    have ez : zMax (lstF G j.toNat) (G 22 j) = lstF G (j + 1).toNat := by
      rw [nx]
      unfold zMax
      split <;> rfl
    rw [ez]
    rfl
  · rintro _ c V ⟨rfl, rfl, rfl⟩
    exact SQ_n (WW_rt (PE_lI rfl) ⟨_, rfl, rfl, rfl, rfl, rfl⟩)
end RI
