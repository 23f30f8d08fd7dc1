/-! THE DIARY'S COUNTS OF SHARED USES are the reference's -/
def isSh (R : oV) (d p : Int) : Bool := decide (¬ R 34 (7 * d + p) = -2) && decide (¬ R 23 (R 34 (7 * d + p)) = p)
def shIn (G R : oV) (d : Int) : Int := cnt (G 4 0).toNat (isSh R d)
def suIn (G R : oV) (q d : Int) : Int := cnt (G 4 0).toNat (fun p => isSh R d p && decide (R 23 (R 34 (7 * d + p)) = q))
def cuIn (G R : oV) (d : Int) : Bool := anyB (G 4 0).toNat (fun p => decide (R 33 (7 * d + p) = 8))
theorem anyB_congr {P Q : Int → Bool} : ∀ {n : Nat}, (∀ j : Int, 0 ≤ j → j < n → P j = Q j) → anyB n P = anyB n Q
  | 0, _ => rfl
  | n + 1, h => by
    unfold anyB
    rw [h n (by omega) (by omega), anyB_congr fun j h1 h2 => h j h1 (by omega)]
/-- an earlier day is the same behind a later one -/
theorem isSh_day {G S : oV} {d d' p : Int} (hG : GW G) (h : RG G S d) (hm : S 36 0 = -1) (hd : 0 ≤ d) (h0 : 0 ≤ d') (h1 : d' < d) (hp : 0 ≤ p) (hp7 : p < G 4 0) : isSh (dayF G d S) d' p = isSh S d' p ∧ (isSh S d' p = true → dayF G d S 23 (dayF G d S 34 (7 * d' + p)) = S 23 (S 34 (7 * d' + p))) := by
  have h47 := hG.2.2.2.2.1
  have d3 := day_3 (G := G) hm hd (by omega) h47.2
  have os := OS_day (G := G) hm hd
  have hr := (h d' h0 h1).2 p hp hp7
  have e34 := d3.2.2.2.2.2 (7 * d' + p) (by omega)
  unfold isSh
  rw [e34]
  rcases hr with hr | hr
  · rw [hr]
    simp
  · have e := (os.2 _ hr.1 hr.2).1
    rw [e]
    exact ⟨rfl, fun _ => rfl⟩
theorem shIn_day {G S : oV} {d d' : Int} (hG : GW G) (h : RG G S d) (hm : S 36 0 = -1) (hd : 0 ≤ d) (h0 : 0 ≤ d') (h1 : d' < d) : shIn G (dayF G d S) d' = shIn G S d' ∧ (∀ q, suIn G (dayF G d S) q d' = suIn G S q d') ∧ cuIn G (dayF G d S) d' = cuIn G S d' := by
  have h47 := hG.2.2.2.2.1
  have d3 := day_3 (G := G) hm hd (by omega) h47.2
  refine ⟨cnt_congr fun p p0 p1 => (isSh_day hG h hm hd h0 h1 p0 (by omega)).1, fun q => cnt_congr fun p p0 p1 => ?_, anyB_congr fun p p0 p1 => ?_⟩
  · obtain ⟨a, b⟩ := isSh_day hG h hm hd h0 h1 p0 (by omega : p < G 4 0)
    rw [a]
    by_cases hs : isSh S d' p = true
    · rw [b hs]
    · simp [hs]
  · rw [d3.2.2.2.2.1 _ (by omega)]
/-- the day itself, by the course's evening -/
theorem shK_day {G K S : oV} {v : Int → Int} {d p : Int} (hG : GW G) (h : CK K S) (hi : DI G S d d) (hv : VE G v S) (hm : S 36 0 = -1) (hd : 0 ≤ d) (hd9 : d ≤ 29) (hp : 0 ≤ p) (hp7 : p < G 4 0) : shK (kEven G v d (kMorn G v d K)) p = isSh (dayF G d S) d p ∧ (isSh (dayF G d S) d p = true → kEven G v d (kMorn G v d K) 9 (kEven G v d (kMorn G v d K) 6 p) = dayF G d S 23 (dayF G d S 34 (7 * d + p))) ∧ (kEven G v d (kMorn G v d K) 4 p = 8 ↔ dayF G d S 33 (7 * d + p) = 8) := by
  have h47 := hG.2.2.2.2.1
  have d1 := DI_morn hG hd hi
  have c1 := CK_morn hG h hi hv hd hd9
  obtain ⟨⟨c2, d2, v2⟩, ue⟩ := CK_even hG c1 d1 (VE_fr hv Fr_morn)
  have d3 := day_3 (G := G) hm hd (by omega) h47.2
  have e3 := E3_day (G := G) hm hd
  have er := ev_rng hG d1 p hp hp7
  have u := ue p hp hp7
  have e34 := d3.2.2.1 (7 * d + p)
  have e33 := d3.2.1 p hp (by omega)
  have c24 := (c2.2.2.1 p hp (by omega)).2.1
  refine ⟨?_, ?_, ?_⟩
  · unfold shK isSh
    rw [e34, e3.1, u]
    rcases er with er | er
    · rw [er]; simp
    · rw [(c2.2.2.2 _ er.1 er.2).1]
      have n2 : ¬ evenF G d (mornF G d S) 34 (7 * d + p) = -2 := by omega
      simp [n2, er.1]
  · intro hs
    unfold isSh at hs
    rw [e34, e3.1] at hs ⊢
    rcases er with er | er
    · rw [er] at hs; simp at hs
    · rw [u, (c2.2.2.2 _ er.1 er.2).1]
  · rw [e33, c24]
    split <;> omega
/-- the diary's counts behind n days -/
def DC (G D S : oV) (n : Int) : Prop := (∀ d, 0 ≤ d → d < n → D 5 d = shIn G S d) ∧ D 9 0 = sm n.toNat (shIn G S) ∧ (∀ q, D 8 q = if 0 ≤ q ∧ q < G 4 0 then cnt n.toNat (fun d => isSh S d q) else 0) ∧ (∀ q, D 7 q = sm n.toNat (suIn G S q)) ∧ D 12 0 = fst1 (cuIn G S) (-2) n.toNat 0
theorem fst1_snoc {P : Int → Bool} {d : Int} : ∀ {n : Nat} {lo : Int}, fst1 P (-2) n lo < lo ∨ (lo ≤ fst1 P (-2) n lo ∧ fst1 P (-2) n lo < lo + n) ∨ fst1 P (-2) n lo = -2 := by
  intro n lo
  rcases fst1_spec P (-2) n lo with ⟨k, k1, k2, k3, k4, k5⟩ | ⟨k1, k2⟩
  · rw [k3]; exact Or.inr (Or.inl ⟨k1, k2⟩)
  · exact Or.inr (Or.inr k1)
theorem fst1_next {P : Int → Bool} {j : Int} (hj : 0 ≤ j) : fst1 P (-2) (j + 1).toNat 0 = if fst1 P (-2) j.toNat 0 < 0 ∧ P j = true then j else fst1 P (-2) j.toNat 0 := by
  rcases fst1_spec P (-2) j.toNat 0 with ⟨k, k1, k2, k3, k4, k5⟩ | ⟨k1, k2⟩
  · rw [k3, if_neg (by omega)]
    exact fst1_at k1 (by omega) k4 k5
  · rw [k1]
    by_cases hp : P j = true
    · rw [if_pos ⟨by omega, hp⟩]
      exact fst1_at hj (by omega) hp fun i i0 i1 => k2 i i0 (by omega)
    · rw [if_neg (fun z => hp z.2)]
      refine fst1_no fun i i0 i1 => ?_
      by_cases e : i = j
      · rw [e]; simpa using hp
      · exact k2 i i0 (by omega)
theorem DC_day {G K D S : oV} {v : Int → Int} {d : Int} (hG : GW G) (h : CK K S) (hi : DI G S d d) (hv : VE G v S) (hm : S 36 0 = -1) (hd : 0 ≤ d) (hd9 : d ≤ 29) (hr : RG G S d) (hc : DC G D S d) : DC G (kDay G v d (K, D)).2 (dayF G d S) (d + 1) := by
  have h47 := hG.2.2.2.2.1
  have hpl := hG.2.1
  have sk := fun p p0 p1 => shK_day (p := p) hG h hi hv hm hd hd9 p0 p1
  have old := fun d' h0 h1 => shIn_day (d' := d') hG hr hm hd h0 h1
  have olds := fun d' p h0 h1 p0 p1 => (isSh_day (d' := d') (p := p) hG hr hm hd h0 h1 p0 p1).1
  obtain ⟨h5, h9, h8, h7, h12⟩ := hc
  show DC G (kNoteQ G (kEven G v d (kMorn G v d K)) d (kNoteP G (kEven G v d (kMorn G v d K)) d D)) (dayF G d S) (d + 1)
  generalize kEven G v d (kMorn G v d K) = K2 at *
  obtain ⟨r1, r2⟩ := kNoteP_r (G := G) (K := K2) (D := D) (d := d) (by omega)
  have b8 : ∀ q, 0 ≤ kNoteP G K2 d D 8 q ∧ kNoteP G K2 d D 8 q ≤ 1000 := fun q => by
    rw [r2 8 (by decide) (by decide) (by decide) (by decide) (by decide), h8]
    have := cnt_le (n := d.toNat) (P := fun d => isSh S d q)
    split <;> omega
  have b7 : ∀ q, 0 ≤ kNoteP G K2 d D 7 q ∧ kNoteP G K2 d D 7 q ≤ 100000 := fun q => by
    rw [r2 7 (by decide) (by decide) (by decide) (by decide) (by decide), h7]
    have := sm_le (f := suIn G S q) (m := 7) (n := d.toNat) fun j j0 j1 => by
      have := cnt_le (n := (G 4 0).toNat) (P := fun p => isSh S j p && decide (S 23 (S 34 (7 * j + p)) = q))
      unfold suIn
      omega
    omega
  obtain ⟨q1, q2, q3, q4⟩ := nQl_2 (G := G) (K := K2) (D := kNoteP G K2 d D) (d := d) (by omega) h47.2 hd b8 b7
  have n5 := (nQl_1 (G := G) (K := K2) (D := kNoteP G K2 d D) (d := d) (by omega)).2.2
  have eSh : cnt (G 4 0).toNat (shK K2) = shIn G (dayF G d S) d := cnt_congr fun p p0 p1 => (sk p p0 (by omega)).1
  have hb : 0 ≤ shIn G (dayF G d S) d ∧ shIn G (dayF G d S) d ≤ 7 := by
    have := cnt_le (n := (G 4 0).toNat) (P := isSh (dayF G d S) d)
    unfold shIn
    omega
  have hb9 : 0 ≤ sm d.toNat (shIn G S) ∧ sm d.toNat (shIn G S) ≤ d.toNat * 7 := sm_le fun j j0 j1 => by
    have := cnt_le (n := (G 4 0).toNat) (P := isSh S j)
    unfold shIn
    omega
  unfold kNoteQ
  refine ⟨fun d' d0 d1 => ?_, ?_, fun q => ?_, fun q => ?_, ?_⟩
  · rw [s1_o (by decide)]
    simp only [u1_r, if_true]
    by_cases e : d' = d
    · subst e
      rw [if_pos rfl, q1, eSh]
    · rw [if_neg e, n5 5 (by decide) (by decide) (by decide) (by decide) (by decide), r2 5 (by decide) (by decide) (by decide) (by decide) (by decide), h5 d' d0 (by omega), (old d' d0 (by omega)).1]
  · simp only [s1_r, if_true]
    rw [n5 9 (by decide) (by decide) (by decide) (by decide) (by decide), r2 9 (by decide) (by decide) (by decide) (by decide) (by decide), h9, q1, eSh, sm_s hd, zAdd_id (by omega) (by omega)]
    congr 1
    exact sm_congr fun j j0 j1 => ((old j j0 (by omega)).1).symm
  · rw [s1_o (by decide), u1_o (by decide), q2, r2 8 (by decide) (by decide) (by decide) (by decide) (by decide), h8]
    by_cases hq : 0 ≤ q ∧ q < G 4 0
    · rw [if_pos hq, if_pos hq, cnt_s hd]
      have e1 : cnt d.toNat (fun d => isSh S d q) = cnt d.toNat (fun j => isSh (dayF G d S) j q) := cnt_congr fun j j0 j1 => (olds j q j0 (by omega) hq.1 hq.2).symm
      rw [e1]
      have e2 := (sk q hq.1 hq.2).1
      rw [e2]
      congr 1
      by_cases hs : isSh (dayF G d S) d q = true
      · rw [if_pos ⟨hs, hq⟩, if_pos hs]
      · rw [if_neg (fun z => hs z.1), if_neg hs]
    · rw [if_neg hq, if_neg hq, if_neg (fun z => hq z.2)]
      rfl
  · rw [s1_o (by decide), u1_o (by decide), q3, r2 7 (by decide) (by decide) (by decide) (by decide) (by decide), h7, sm_s hd]
    have e1 : sm d.toNat (suIn G S q) = sm d.toNat (suIn G (dayF G d S) q) := sm_congr fun j j0 j1 => ((old j j0 (by omega)).2.1 q).symm
    rw [e1]
    congr 1
    refine cnt_congr fun p p0 p1 => ?_
    obtain ⟨a, b, -⟩ := sk p p0 (by omega)
    rw [a]
    by_cases hs : isSh (dayF G d S) d p = true
    · rw [b hs]
    · simp [hs]
  · rw [s1_o (by decide), u1_o (by decide), q4, r2 12 (by decide) (by decide) (by decide) (by decide) (by decide), h12, fst1_next hd]
    have e1 : fst1 (cuIn G S) (-2) d.toNat 0 = fst1 (cuIn G (dayF G d S)) (-2) d.toNat 0 := fst1_congr fun j j0 j1 => ((old j j0 (by omega)).2.2).symm
    have e2 : anyB (G 4 0).toNat (fun p => decide (K2 4 p = 8)) = cuIn G (dayF G d S) d := anyB_congr fun p p0 p1 => by
      have := (sk p p0 (by omega)).2.2
      simp only [this]
    rw [e1, e2]
