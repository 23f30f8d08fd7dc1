/-! the course's pointers stay -/
def K01 (K T : oV) : Prop := T 0 = K 0 ∧ T 1 = K 1
theorem K01.rf {K : oV} : K01 K K := ⟨rfl, rfl⟩
theorem K01.tr {K T U : oV} (h : K01 K T) (h' : K01 T U) : K01 K U := ⟨h'.1.trans h.1, h'.2.trans h.2⟩
theorem K01.wu {K T : oV} {k : Nat} {i x : Int} (h : K01 K T) (hk : 2 ≤ k) : K01 K (u1 T k i x) := ⟨by rw [u1_o (by omega)]; exact h.1, by rw [u1_o (by omega)]; exact h.2⟩
theorem K01.ws {K T : oV} {k : Nat} {x : Int} (h : K01 K T) (hk : 2 ≤ k) : K01 K (s1 T k x) := ⟨by rw [s1_o (by omega)]; exact h.1, by rw [s1_o (by omega)]; exact h.2⟩
theorem K01.wf {K T : oV} {k : Nat} {f : Int → Int} (h : K01 K T) (hk : 2 ≤ k) : K01 K (sF T k f) := ⟨by rw [sF_ne (by omega)]; exact h.1, by rw [sF_ne (by omega)]; exact h.2⟩
theorem K01_stand {G K : oV} {p : Int} : K01 K (kStand G K p) := by
  unfold kStand
  split
  · exact ((K01.rf.wu (by omega)).wu (by omega)).wu (by omega)
  · exact K01.rf.wu (by omega)
theorem K01_lift {K : oV} {p : Int} : K01 K (kLift K p) := by
  unfold kLift
  split
  · exact K01.rf.wu (by omega)
  · exact K01.rf
theorem K01_pick {G K : oV} {v : Int → Int} {p : Int} : K01 K (kPickK G v K p) := by
  unfold kPickK
  split
  · exact K01.rf
  · exact K01.rf.wf (by omega)
theorem K01_buy {G K : oV} {v : Int → Int} {p d : Int} : K01 K (kBuy G v K p d) := by
  unfold kBuy
  split
  · exact K01.rf
  · dsimp only
    refine K01.wu (K01.tr ?_ K01_stand) (by omega)
    refine ((((K01.wu (K01.tr ?_ K01_pick) (by omega)).wu (by omega)).wu (by omega)).wu (by omega)).wu (by omega)
    exact (K01.rf.ws (by omega)).wu (by omega)
theorem K01_exch {K : oV} {x y : Int} : K01 K (kExch K x y) := by
  unfold kExch
  dsimp only
  have h1 : K01 K (u1 (u1 K 2 x (K 2 y)) 2 y (K 2 x)) := (K01.rf.wu (by omega)).wu (by omega)
  generalize u1 (u1 K 2 x (K 2 y)) 2 y (K 2 x) = K1 at h1
  have h2 : K01 K (if 0 ≤ K1 2 x then u1 K1 4 (K1 9 (K1 2 x)) x else K1) := by
    split
    · exact h1.wu (by omega)
    · exact h1
  generalize (if 0 ≤ K1 2 x then u1 K1 4 (K1 9 (K1 2 x)) x else K1) = K2 at h2
  split
  · exact h2.wu (by omega)
  · exact h2
theorem K01_in {G K : oV} {v : Int → Int} {p d : Int} : K01 K (kIn G v K p d) := by
  unfold kIn
  split
  · exact K01_buy
  · split
    · exact K01_stand.wu (by omega)
    · exact K01.rf
theorem K01_rew {G K : oV} {v : Int → Int} {p d : Int} : K01 K (kRew G v K p d) := by
  unfold kRew
  split
  · exact K01.tr (K01.wu (K01.tr (K01.rf.wu (by omega)) K01_lift) (by omega)) K01_buy
  · exact K01.rf
theorem K01_come {G K : oV} {v : Int → Int} {d p : Int} : K01 K (kCome G v d p K) := by
  unfold kCome
  split
  · exact K01_in
  · exact K01.rf
theorem K01_ren {G K : oV} {v : Int → Int} {d p : Int} : K01 K (kRen G v d p K) := by
  unfold kRen
  split
  · exact K01_rew
  · exact K01.rf
theorem K01_mv {G K : oV} {d k : Int} : K01 K (kMv G d k K) := by
  unfold kMv
  split
  · exact K01_exch
  · exact K01.rf
theorem K01_mva {K : oV} {v : Int → Int} {d k : Int} : K01 K (kMva v d k K) := by
  unfold kMva
  split
  · exact K01_exch
  · exact K01.rf
theorem K01.wi {K T : oV} {f : Int → oV → oV} {n : Nat} (h : K01 K T) (hf : ∀ j U, K01 U (f j U)) : K01 K (it f n T) := by
  induction n with
  | zero => exact h
  | succ n ih => exact ih.tr (hf _ _)
theorem K01_morn {G K : oV} {v : Int → Int} {d : Int} : K01 K (kMorn G v d K) := K01.wi (K01.wi (K01.wi (K01.wi K01.rf fun _ _ => K01_come) fun _ _ => K01_ren) fun _ _ => K01_mv) fun _ _ => K01_mva
theorem K01_ev {G K : oV} {v : Int → Int} {d p : Int} : K01 K (kEv G v d p K) := by
  unfold kEv
  dsimp only
  generalize (if hereB G p d = true then kChos G v K p else -2) = x
  have h1 : K01 K (u1 K 6 p x) := K01.rf.wu (by omega)
  generalize u1 K 6 p x = K1 at h1
  split
  · have h2 : K01 K (u1 K1 13 x (zAdd (K1 13 x) (G 14 p))) := h1.wu (by omega)
    generalize u1 K1 13 x (zAdd (K1 13 x) (G 14 p)) = K2 at h2
    split
    · exact (h2.wu (by omega)).tr K01_stand
    · exact h2
  · exact h1
theorem K01_even {G K : oV} {v : Int → Int} {d : Int} : K01 K (kEven G v d K) := K01.wi K01.rf fun _ _ => K01_ev
theorem K01_go {G K : oV} {d p : Int} : K01 K (kGo G d p K) := by
  unfold kGo
  split
  · exact K01_lift.wu (by omega)
  · exact K01.rf
theorem K01_night {G K : oV} {d : Int} : K01 K (kNight G d K) := K01.wi K01.rf fun _ _ => K01_go
theorem EN_k {c : cT} {V : Mem} {a g w : Nat} {G K : oV} {v : Int → Int} (h : EN c V a g w G v) (h7 : G 4 0 ≤ 7) (hk : K01 (V a) K) : EN c (sO V a K) a g w G v := EN_sO h h7 (by rw [hk.1]) (by rw [hk.2])
theorem EN_sM {c : cT} {V : Mem} {a g w k : Nat} {G : oV} {v : Int → Int} {f : Int → Int} (h : EN c V a g w G v) (h7 : G 4 0 ≤ 7) (hk : 2 ≤ k) : EN c (sM V a k f) a g w G v := EN_k h h7 (K01.rf.wf hk)
