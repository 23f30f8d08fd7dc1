/-! THE DIARY'S COUNTS OF WHAT IS ALIKE are the reference's -/
def colT (R : oV) (d k : Int) : Int := if R 32 (8 * d + k) = -2 then -2 else R 24 (R 32 (8 * d + k))
def alIn (G R : oV) (d : Int) : Int := sm (G 1 0).toNat (fun a => cnt a.toNat (fun b => decide (¬ colT R d a = -2) && decide (colT R d a = colT R d b)))
def coIn (G R : oV) (d x : Int) : Int := cnt (G 1 0).toNat (fun k => decide (colT R d k = x))
theorem colT_day {G S : oV} {d d' k : Int} (hG : GW G) (h : RG G S d) (hm : S 36 0 = -1) (hd : 0 ≤ d) (h0 : 0 ≤ d') (h1 : d' < d) (hk : 0 ≤ k) (hk8 : k < 8) : colT (dayF G d S) d' k = colT S d' k := by
  have h47 := hG.2.2.2.2.1
  have d3 := day_3 (G := G) hm hd (by omega) h47.2
  have os := OS_day (G := G) hm hd
  have hr := (h d' h0 h1).1 k hk hk8
  unfold colT
  rw [d3.2.2.2.1 _ (by omega)]
  rcases hr with hr | hr
  · rw [if_pos hr, if_pos hr]
  · rw [if_neg (by omega), if_neg (by omega), (os.2 _ hr.1 hr.2.1).2]
theorem alIn_congr {G R T : oV} {d : Int} (h8 : G 1 0 ≤ 8) (h : ∀ k, 0 ≤ k → k < 8 → colT R d k = colT T d k) : alIn G R d = alIn G T d ∧ ∀ x, coIn G R d x = coIn G T d x := by
  refine ⟨sm_congr fun a a0 a1 => cnt_congr fun b b0 b1 => ?_, fun x => cnt_congr fun k k0 k1 => ?_⟩
  · rw [h a a0 (by omega), h b b0 (by omega)]
  · rw [h k k0 (by omega)]
/-- the colours of a day's evening, by the course's -/
theorem colK_day {G K S : oV} {v : Int → Int} {d k : Int} (hG : GW G) (h : CK K S) (hi : DI G S d d) (hv : VE G v S) (hm : S 36 0 = -1) (hd : 0 ≤ d) (hd9 : d ≤ 29) (hk : 0 ≤ k) (hk8 : k < 8) : (kEven G v d (kMorn G v d K) 2 k < 0 ∧ colT (dayF G d S) d k = -2) ∨ (0 ≤ kEven G v d (kMorn G v d K) 2 k ∧ colT (dayF G d S) d k = kEven G v d (kMorn G v d K) 10 (kEven G v d (kMorn G v d K) 2 k) ∧ 0 ≤ colT (dayF G d S) d k ∧ colT (dayF G d S) d k < G 2 0) := by
  have h47 := hG.2.2.2.2.1
  have d1 := DI_morn hG hd hi
  have c1 := CK_morn hG h hi hv hd hd9
  obtain ⟨⟨c2, d2, v2⟩, ue⟩ := CK_even hG c1 d1 (VE_fr hv Fr_morn)
  have d3 := day_3 (G := G) hm hd (by omega) h47.2
  have e3 := E3_day (G := G) hm hd
  have g6 := hG.2.2.2.2.2.2.2.2.2.1
  have w := d2.1.1.2.1 k hk hk8
  have ek := c2.2.1 k hk hk8
  unfold colT
  rw [d3.1 k hk hk8, e3.2.1, ek]
  rcases w with w | w
  · left
    rw [if_pos w]
    exact ⟨by omega, rfl⟩
  · right
    rw [if_neg (by omega)]
    have q := (c2.2.2.2 _ w.1 w.2.1).2.1
    obtain ⟨b1, b2, i, i0, i1, i2⟩ := d2.1.2.1 _ w.1 w.2.1
    have e4 := g6 _ i b1.1 b1.2 i0 i1
    rw [q]
    refine ⟨w.1, rfl, ?_, ?_⟩
    · rw [i2]; exact e4.1
    · rw [i2]; exact e4.2
theorem alK_eq {G K R : oV} {d : Int} (h8 : G 1 0 ≤ 8) (h : ∀ k, 0 ≤ k → k < 8 → (K 2 k < 0 ∧ colT R d k = -2) ∨ (0 ≤ K 2 k ∧ colT R d k = K 10 (K 2 k) ∧ 0 ≤ colT R d k ∧ colT R d k < G 2 0)) : alK K (G 1 0).toNat = alIn G R d ∧ ∀ x, 0 ≤ x → tlK K (G 1 0).toNat x = coIn G R d x := by
  refine ⟨sm_congr fun a a0 a1 => ?_, fun x x0 => cnt_congr fun k k0 k1 => ?_⟩
  · rcases h a a0 (by omega) with ⟨p1, p2⟩ | ⟨p1, p2, p3, p4⟩
    · rw [if_neg (by omega), p2]
      have : cnt a.toNat (fun b => decide (¬ (-2 : Int) = -2) && decide (-2 = colT R d b)) = cnt a.toNat (fun _ => false) := cnt_congr fun b _ _ => by simp
      rw [this]
      have z : ∀ n : Nat, cnt n (fun _ => false) = 0 := fun n => by
        induction n with
        | zero => rfl
        | succ n ih => simp [cnt, ih]
      rw [z]
    · rw [if_pos p1]
      refine cnt_congr fun b b0 b1 => ?_
      have n2 : ¬ colT R d a = -2 := by omega
      rw [← p2]
      rcases h b b0 (by omega) with ⟨r1, r2⟩ | ⟨r1, r2, r3, r4⟩
      · have : ¬ 0 ≤ K 2 b := by omega
        rw [r2]
        simp [this, n2]
      · rw [r2]
        simp only [r1, n2, decide_true, Bool.true_and, not_false_eq_true]
        by_cases e : K 10 (K 2 b) = colT R d a
        · simp [e]
        · simp [e, Ne.symm e]
  · rcases h k k0 (by omega) with ⟨p1, p2⟩ | ⟨p1, p2, p3, p4⟩
    · have : ¬ 0 ≤ K 2 k := by omega
      rw [p2]
      have : ¬ (-2 : Int) = x := by omega
      simp [*]
    · rw [p2]
      simp [p1]
/-- the diary's counts of what is alike, behind n days -/
def DM (G D S : oV) (n : Int) : Prop := (∀ d, 0 ≤ d → d < n → D 6 d = alIn G S d) ∧ D 10 0 = cnt n.toNat (fun d => decide (0 < alIn G S d)) ∧ 0 ≤ D 11 0 ∧ (∀ d x, 0 ≤ d → d < n → 0 ≤ x → coIn G S d x ≤ D 11 0) ∧ (D 11 0 = 0 ∨ ∃ d x, 0 ≤ d ∧ d < n ∧ 0 ≤ x ∧ x < G 2 0 ∧ coIn G S d x = D 11 0)
theorem tlK_pos {K : oV} {t : Int} : ∀ {n : Nat}, 0 < tlK K n t → ∃ k : Int, 0 ≤ k ∧ k < n ∧ 0 ≤ K 2 k ∧ K 10 (K 2 k) = t
  | 0, h => by simp [tlK, cnt] at h
  | n + 1, h => by
    have e : tlK K (n + 1) t = tlK K n t + (if (decide (0 ≤ K 2 n) && decide (K 10 (K 2 n) = t)) = true then 1 else 0) := rfl
    by_cases hs : 0 ≤ K 2 n ∧ K 10 (K 2 n) = t
    · exact ⟨n, by omega, by omega, hs.1, hs.2⟩
    · rw [e, if_neg (by simpa using hs)] at h
      have h' : 0 < tlK K n t := by omega
      obtain ⟨k, k0, k1, k2, k3⟩ := tlK_pos h'
      exact ⟨k, k0, by omega, k2, k3⟩
theorem DM_day {G K D S : oV} {v : Int → Int} {d : Int} (hG : GW G) (h : CK K S) (hi : DI G S d d) (hv : VE G v S) (hm : S 36 0 = -1) (hd : 0 ≤ d) (hd9 : d ≤ 29) (hr : RG G S d) (hc : DM G D S d) : DM G (kDay G v d (K, D)).2 (dayF G d S) (d + 1) := by
  have h47 := hG.2.2.2.2.1
  have hpl := hG.2.1
  have ck := fun k k0 k1 => colK_day (k := k) hG h hi hv hm hd hd9 k0 k1
  have old := fun d' h0 h1 => alIn_congr (G := G) (R := dayF G d S) (T := S) (d := d') hpl.2 fun k k0 k8 => colT_day hG hr hm hd h0 h1 k0 k8
  obtain ⟨h6, h10, h110, h11a, h11b⟩ := hc
  show DM G (kNoteQ G (kEven G v d (kMorn G v d K)) d (kNoteP G (kEven G v d (kMorn G v d K)) d D)) (dayF G d S) (d + 1)
  generalize kEven G v d (kMorn G v d K) = K2 at *
  have q3 := (kNoteQ_r (G := G) (K := K2) (D := kNoteP G K2 d D) (d := d) (by omega)).2.2
  obtain ⟨ae, te⟩ := alK_eq hpl.2 ck
  obtain ⟨n1, n2, n3, n4⟩ := nPl_2 (G := G) (K := K2) (D := D) (d := d) (by omega) hpl.2 h110
  have n5 := (nPl_1 (G := G) (K := K2) (D := D) (d := d) (by omega)).2
  have p11 : kNoteP G K2 d D 11 = (nPl G K2 d D).1 11 := by unfold kNoteP; rw [s1_o (by decide), u1_o (by decide)]
  unfold DM
  rw [q3 6 (by decide) (by decide) (by decide) (by decide) (by decide) (by decide) (by decide), q3 10 (by decide) (by decide) (by decide) (by decide) (by decide) (by decide) (by decide), q3 11 (by decide) (by decide) (by decide) (by decide) (by decide) (by decide) (by decide), p11]
  refine ⟨fun d' d0 d1 => ?_, ?_, by omega, fun d' x d0 d1 x0 => ?_, ?_⟩
  · unfold kNoteP
    rw [s1_o (by decide)]
    simp only [u1_r, if_true]
    by_cases e : d' = d
    · subst e
      rw [if_pos rfl, n1, ae]
    · rw [if_neg e, n5 6 (by decide) (by decide) (by decide), h6 d' d0 (by omega), (old d' d0 (by omega)).1]
  · unfold kNoteP
    simp only [s1_r, if_true]
    rw [n5 10 (by decide) (by decide) (by decide), h10, n1, ae, cnt_s hd]
    have e1 : cnt d.toNat (fun d => decide (0 < alIn G S d)) = cnt d.toNat (fun j => decide (0 < alIn G (dayF G d S) j)) := cnt_congr fun j j0 j1 => by rw [(old j j0 (by omega)).1]
    rw [e1]
    have := cnt_le (n := d.toNat) (P := fun j => decide (0 < alIn G (dayF G d S) j))
    rw [zAdd_id (by split <;> omega) (by split <;> omega)]
    congr 1
    by_cases q : 0 < alIn G (dayF G d S) d
    · simp [q]
    · simp [q]
  · by_cases e : d' = d
    · subst e
      rw [← te x x0]
      exact n3 x
    · rw [(old d' d0 (by omega)).2 x]
      have := h11a d' x d0 (by omega) x0
      omega
  · have hold : (D 11 0 = 0 ∨ ∃ d' x, 0 ≤ d' ∧ d' < d + 1 ∧ 0 ≤ x ∧ x < G 2 0 ∧ coIn G (dayF G d S) d' x = D 11 0) := by
      rcases h11b with q | ⟨d', x, a, b, c1, c2, e⟩
      · exact Or.inl q
      · exact Or.inr ⟨d', x, a, by omega, c1, c2, by rw [(old d' a b).2 x]; exact e⟩
    rcases n4 with n4 | ⟨t, n4⟩
    · rw [n4]; exact hold
    · by_cases hp : 0 < tlK K2 (G 1 0).toNat t
      · obtain ⟨k, k0, k1, k2, k3⟩ := tlK_pos hp
        rcases ck k k0 (by omega) with ⟨r1, r2⟩ | ⟨r1, r2, r3, r4⟩
        · exfalso
          clear ck old te n3 h11a h11b hold
          omega
        · right
          rw [r2, k3] at r3 r4
          exact ⟨d, t, hd, by clear ck old te n3 h11a h11b hold; omega, r3, r4, by rw [← te t r3]; exact n4⟩
      · have n30 := n3 0
        have := tlK_le (K := K2) (j := (G 1 0).toNat) (t := t)
        left
        clear ck old te n3 h11a h11b hold
        omega
