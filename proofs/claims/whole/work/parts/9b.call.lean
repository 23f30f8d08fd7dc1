/-! CALLS that only answer: the class and the reference together -/
section FI
variable {c : cT} {V V' V2 : Mem} {g m : Nat} {t : Int}
theorem FD_ex {G S : oV} (hG : GW G) : ∃ K D, FD G S K D := ⟨_, _, fun T t1 t2 t3 => DY_run (K := S) (D := S) (v := S 18) (g := 0) (w := 0) hG t1 t3 t2⟩
theorem tq_o (hQ : TQ V V' t) {a : Nat} (ha : 305 ≤ a) : V' a = V a := hQ.1 a (by omega) (by omega) (by omega)
theorem RH_tq {K D : oV} (hm : mG c V m) (hm3 : 331 ≤ m) (hgl : GL0 V (V 305) (V m) g) (h5 : V' 305 = V 305) (hv : V' m = V m) (hf : FD (V m) (V 305) K D) : RH c V' m K D := by
  refine ⟨⟨by rw [h5]; exact hm.1, hm.2⟩, by rw [hv]; exact hgl.1, by rw [hv, h5]; exact hgl.2.2.2.1, by rw [hv, h5]; exact hf⟩
theorem fin_q (h : RC c V) (hP : gP V g) (hm : mG c V m) (hm3 : 331 ≤ m) (hgl : GL V (V 305) (V m) g) (hQ : TQ V V' t) (hf : FD (V m) (V 305) (V' 236) (V' 235)) (hV : mqV V' V2 t) (ht : t ≠ 4) : RC c V2 := by
  rw [mqV_eq hV]
  have h5 : V' 305 = V 305 := tq_o hQ (by omega)
  have h9 : V' 279 = V 279 := hQ.1 279 (by omega) (by omega) (by omega)
  refine RC_q h hP hm hgl hm3 (TQ_SC hQ) (Or.inr ⟨hQ.2.2.1, hf⟩) (CX_eq hgl.2.2 h9 rfl) hQ.2.2.2 ?_ hV.2.1 hV.2.2 ht
  have := hV.1.2
  rwa [h5] at this
theorem fin_15 {f : Int → Int} (h : RC c V) (hP : gP V g) (hm : mG c V m) (hm3 : 331 ≤ m) (hgl : GL V (V 305) (V m) g) (hV : mqV (sM V 0 15 f) V2 t) (hf : f 0 = t) (ht : t ≠ 4) : RC c V2 := by
  rw [mqV_eq hV]
  refine RC_q h hP hm hgl hm3 (SC.rf.s0 (by decide)) (CDy_eq hgl.2.1 (sM_o (by decide)) (sM_o (by decide)) (sM_k (by decide)) rfl) (CX_eq hgl.2.2 (sM_o (by decide)) rfl) (by rw [sM_at]; exact hf) ?_ hV.2.1 hV.2.2 ht
  have := hV.1.2
  rwa [sM_o (by decide)] at this
theorem fin_n {f : Int → Int} (h : RC c V) (hP : gP V g) (hz : V 305 3 0 = -1) (hn : NG V g) (hV : mqV (sM V 0 15 f) V2 t) (hf : f 0 = t) (ht : t ≠ 4) : RC c V2 := by
  rw [mqV_eq hV]
  refine RC_n h hP hz (NG_15 hn hP.1) (SC.rf.s0 (by decide)) (by rw [sM_at]; exact hf) ?_ hV.2.1 hV.2.2 ht
  have := hV.1.2
  rwa [sM_o (by decide)] at this
end FI
section CAL
variable {c : cT} {V : Mem}
theorem ca_97 (h : RC c V) : GC c V 97 228 [] := by
  obtain ⟨c1, c2, g, hP, htp, htr, ⟨hz, hn⟩ | ⟨m, hm, hm3, hgl⟩⟩ := id h
  · have e4 : V g 4 0 = 0 := hn.1.2.2.2.2.1
    have e1 : V g 1 0 = 0 := hn.1.2.1
    refine CC_le (qc_97 (S := V 305) (G := V 305) hP (fun _ => e1) (fun q => by omega) (fun hc => by omega) (fun _ => ⟨-1, rfl, ?_⟩)) (by decide)
    refine CC_le (qz_228 (by rw [sM_o (by decide)]; exact hz) (fun V2 hV => ⟨rfl, cLE_rf, fin_n h hP hz hn hV ?_ (by decide)⟩)) (by decide)
    exact if_neg (by omega)
  · have hT : TDY V (V 305) (V m) g := ⟨hP, hgl.1, hgl.2.1⟩
    obtain ⟨z0, z1, z4, e0, e1, e4⟩ := GL_sz hgl.1
    refine CC_le (qc_97 (S := V 305) (G := V m) hP (fun q => by omega) (fun _ => hT) (fun hc V' hQ hf => ⟨_, rfl, ?_⟩) (fun hc => ⟨-1, rfl, ?_⟩)) (by decide)
    · have h5 : V' 305 = V 305 := tq_o hQ (by omega)
      have hv : V' m = V m := tq_o hQ (by omega)
      refine CC_le (qm_228 (g := m) (K := V' 236) (D := V' 235) (RH_tq hm hm3 hgl.1 h5 hv hf) (fun _ V2 hV => ⟨rfl, cLE_rf, fin_q h hP hm hm3 hgl hQ hf hV (by decide)⟩)) (by decide)
    · omega
theorem ca_99 {d k : Int} (h : RC c V) : GC c V 99 231 [vI d, vI k] := by
  obtain ⟨c1, c2, g, hP, htp, htr, ⟨hz, hn⟩ | ⟨m, hm, hm3, hgl⟩⟩ := id h
  · have e4 : V g 4 0 = 0 := hn.1.2.2.2.2.1
    have e1 : V g 1 0 = 0 := hn.1.2.1
    refine CC_le (qc_99 (S := V 305) (G := V 305) hP (fun _ => e1) (fun q => by omega) (fun hc => by omega) (fun _ => ⟨-1, rfl, ?_⟩)) (by decide)
    refine CC_le (qz_231 (by rw [sM_o (by decide)]; exact hz) (fun V2 hV => ⟨rfl, cLE_rf, fin_n h hP hz hn hV ?_ (by decide)⟩)) (by decide)
    exact if_neg (by omega)
  · have hT : TDY V (V 305) (V m) g := ⟨hP, hgl.1, hgl.2.1⟩
    obtain ⟨z0, z1, z4, e0, e1, e4⟩ := GL_sz hgl.1
    refine CC_le (qc_99 (S := V 305) (G := V m) hP (fun q => by omega) (fun _ => hT) (fun hc V' hQ hf => ⟨_, rfl, ?_⟩) (fun hc => ⟨-1, rfl, ?_⟩)) (by decide)
    · have h5 : V' 305 = V 305 := tq_o hQ (by omega)
      have hv : V' m = V m := tq_o hQ (by omega)
      refine CC_le (qm_231 (g := m) (K := V' 236) (D := V' 235) (RH_tq hm hm3 hgl.1 h5 hv hf) (fun _ V2 hV => ⟨rfl, cLE_rf, fin_q h hP hm hm3 hgl hQ hf hV (by decide)⟩) (fun hc' => absurd ?_ hc')) (by decide)
      rw [hv]
      omega
    · obtain ⟨K, D, hf⟩ := FD_ex (S := V 305) hgl.1.1
      refine CC_le (qm_231 (g := m) (K := K) (D := D) (RH_tq hm hm3 hgl.1 (sM_o (by decide)) (sM_o (by omega)) hf) (fun hc' => absurd ?_ hc) (fun hc' V2 hV => ⟨rfl, cLE_rf, fin_15 h hP hm hm3 hgl hV ?_ ?_⟩)) (by decide)
      · rw [sM_o (by omega)] at hc'
        omega
      · rw [sM_o (by omega), e0, e1]
      · rw [sM_o (by omega)]
        repeat' split
        all_goals decide
theorem ca_100 {d k : Int} (h : RC c V) : GC c V 100 232 [vI d, vI k] := by
  obtain ⟨c1, c2, g, hP, htp, htr, ⟨hz, hn⟩ | ⟨m, hm, hm3, hgl⟩⟩ := id h
  · have e4 : V g 4 0 = 0 := hn.1.2.2.2.2.1
    have e1 : V g 1 0 = 0 := hn.1.2.1
    refine CC_le (qc_100 (S := V 305) (G := V 305) hP (fun _ => e1) (fun q => by omega) (fun hc => by omega) (fun _ => ⟨-1, rfl, ?_⟩)) (by decide)
    refine CC_le (qz_232 (by rw [sM_o (by decide)]; exact hz) (fun V2 hV => ⟨rfl, cLE_rf, fin_n h hP hz hn hV ?_ (by decide)⟩)) (by decide)
    exact if_neg (by omega)
  · have hT : TDY V (V 305) (V m) g := ⟨hP, hgl.1, hgl.2.1⟩
    obtain ⟨z0, z1, z4, e0, e1, e4⟩ := GL_sz hgl.1
    refine CC_le (qc_100 (S := V 305) (G := V m) hP (fun q => by omega) (fun _ => hT) (fun hc V' hQ hf => ⟨_, rfl, ?_⟩) (fun hc => ⟨-1, rfl, ?_⟩)) (by decide)
    · have h5 : V' 305 = V 305 := tq_o hQ (by omega)
      have hv : V' m = V m := tq_o hQ (by omega)
      refine CC_le (qm_232 (g := m) (K := V' 236) (D := V' 235) (RH_tq hm hm3 hgl.1 h5 hv hf) (fun _ V2 hV => ⟨rfl, cLE_rf, fin_q h hP hm hm3 hgl hQ hf hV (by decide)⟩) (fun hc' => absurd ?_ hc')) (by decide)
      rw [hv]
      omega
    · obtain ⟨K, D, hf⟩ := FD_ex (S := V 305) hgl.1.1
      refine CC_le (qm_232 (g := m) (K := K) (D := D) (RH_tq hm hm3 hgl.1 (sM_o (by decide)) (sM_o (by omega)) hf) (fun hc' => absurd ?_ hc) (fun hc' V2 hV => ⟨rfl, cLE_rf, fin_15 h hP hm hm3 hgl hV ?_ ?_⟩)) (by decide)
      · rw [sM_o (by omega)] at hc'
        omega
      · rw [sM_o (by omega), e0, e1]
      · rw [sM_o (by omega)]
        repeat' split
        all_goals decide
theorem ca_101 {d k : Int} (h : RC c V) : GC c V 101 234 [vI d, vI k] := by
  obtain ⟨c1, c2, g, hP, htp, htr, ⟨hz, hn⟩ | ⟨m, hm, hm3, hgl⟩⟩ := id h
  · have e4 : V g 4 0 = 0 := hn.1.2.2.2.2.1
    have e1 : V g 1 0 = 0 := hn.1.2.1
    refine CC_le (qc_101 (S := V 305) (G := V 305) hP (fun _ => e1) (fun q => by omega) (fun hc => by omega) (fun _ => ⟨-1, rfl, ?_⟩)) (by decide)
    refine CC_le (qz_234 (by rw [sM_o (by decide)]; exact hz) (fun V2 hV => ⟨rfl, cLE_rf, fin_n h hP hz hn hV ?_ (by decide)⟩)) (by decide)
    exact if_neg (by omega)
  · have hT : TDY V (V 305) (V m) g := ⟨hP, hgl.1, hgl.2.1⟩
    obtain ⟨z0, z1, z4, e0, e1, e4⟩ := GL_sz hgl.1
    refine CC_le (qc_101 (S := V 305) (G := V m) hP (fun q => by omega) (fun _ => hT) (fun hc V' hQ hf => ⟨_, rfl, ?_⟩) (fun hc => ⟨-1, rfl, ?_⟩)) (by decide)
    · have h5 : V' 305 = V 305 := tq_o hQ (by omega)
      have hv : V' m = V m := tq_o hQ (by omega)
      refine CC_le (qm_234 (g := m) (K := V' 236) (D := V' 235) (RH_tq hm hm3 hgl.1 h5 hv hf) (fun _ V2 hV => ⟨rfl, cLE_rf, fin_q h hP hm hm3 hgl hQ hf hV (by decide)⟩) (fun hc' => absurd ?_ hc')) (by decide)
      rw [hv]
      omega
    · obtain ⟨K, D, hf⟩ := FD_ex (S := V 305) hgl.1.1
      refine CC_le (qm_234 (g := m) (K := K) (D := D) (RH_tq hm hm3 hgl.1 (sM_o (by decide)) (sM_o (by omega)) hf) (fun hc' => absurd ?_ hc) (fun hc' V2 hV => ⟨rfl, cLE_rf, fin_15 h hP hm hm3 hgl hV ?_ ?_⟩)) (by decide)
      · rw [sM_o (by omega)] at hc'
        omega
      · rw [sM_o (by omega), e0, e1]
      · rw [sM_o (by omega)]
        repeat' split
        all_goals decide
theorem ca_102 {d p : Int} (h : RC c V) : GC c V 102 235 [vI d, vI p] := by
  obtain ⟨c1, c2, g, hP, htp, htr, ⟨hz, hn⟩ | ⟨m, hm, hm3, hgl⟩⟩ := id h
  · have e4 : V g 4 0 = 0 := hn.1.2.2.2.2.1
    have e1 : V g 1 0 = 0 := hn.1.2.1
    refine CC_le (qc_102 (S := V 305) (G := V 305) hP (fun _ => e1) (fun q => by omega) (fun hc => by omega) (fun _ => ⟨-1, rfl, ?_⟩)) (by decide)
    refine CC_le (qz_235 (by rw [sM_o (by decide)]; exact hz) (fun V2 hV => ⟨rfl, cLE_rf, fin_n h hP hz hn hV ?_ (by decide)⟩)) (by decide)
    exact if_neg (by omega)
  · have hT : TDY V (V 305) (V m) g := ⟨hP, hgl.1, hgl.2.1⟩
    obtain ⟨z0, z1, z4, e0, e1, e4⟩ := GL_sz hgl.1
    refine CC_le (qc_102 (S := V 305) (G := V m) hP (fun q => by omega) (fun _ => hT) (fun hc V' hQ hf => ⟨_, rfl, ?_⟩) (fun hc => ⟨-1, rfl, ?_⟩)) (by decide)
    · have h5 : V' 305 = V 305 := tq_o hQ (by omega)
      have hv : V' m = V m := tq_o hQ (by omega)
      refine CC_le (qm_235 (g := m) (K := V' 236) (D := V' 235) (RH_tq hm hm3 hgl.1 h5 hv hf) (fun _ V2 hV => ⟨rfl, cLE_rf, fin_q h hP hm hm3 hgl hQ hf hV (by decide)⟩) (fun hc' => absurd ?_ hc')) (by decide)
      rw [hv]
      omega
    · obtain ⟨K, D, hf⟩ := FD_ex (S := V 305) hgl.1.1
      refine CC_le (qm_235 (g := m) (K := K) (D := D) (RH_tq hm hm3 hgl.1 (sM_o (by decide)) (sM_o (by omega)) hf) (fun hc' => absurd ?_ hc) (fun hc' V2 hV => ⟨rfl, cLE_rf, fin_15 h hP hm hm3 hgl hV ?_ ?_⟩)) (by decide)
      · rw [sM_o (by omega)] at hc'
        omega
      · rw [sM_o (by omega), e0, e4]
      · rw [sM_o (by omega)]
        repeat' split
        all_goals decide
theorem ca_103 {d : Int} (h : RC c V) : GC c V 103 237 [vI d] := by
  obtain ⟨c1, c2, g, hP, htp, htr, ⟨hz, hn⟩ | ⟨m, hm, hm3, hgl⟩⟩ := id h
  · have e4 : V g 4 0 = 0 := hn.1.2.2.2.2.1
    have e1 : V g 1 0 = 0 := hn.1.2.1
    refine CC_le (qc_103 (S := V 305) (G := V 305) hP (fun q => by omega) (fun hc => by omega) (fun _ => ⟨-1, rfl, ?_⟩)) (by decide)
    refine CC_le (qz_237 (by rw [sM_o (by decide)]; exact hz) (fun V2 hV => ⟨rfl, cLE_rf, fin_n h hP hz hn hV ?_ (by decide)⟩)) (by decide)
    exact if_neg (by omega)
  · have hT : TDY V (V 305) (V m) g := ⟨hP, hgl.1, hgl.2.1⟩
    obtain ⟨z0, z1, z4, e0, e1, e4⟩ := GL_sz hgl.1
    refine CC_le (qc_103 (S := V 305) (G := V m) hP (fun _ => hT) (fun hc V' hQ hf => ⟨_, rfl, ?_⟩) (fun hc => ⟨-1, rfl, ?_⟩)) (by decide)
    · have h5 : V' 305 = V 305 := tq_o hQ (by omega)
      have hv : V' m = V m := tq_o hQ (by omega)
      refine CC_le (qm_237 (g := m) (K := V' 236) (D := V' 235) (RH_tq hm hm3 hgl.1 h5 hv hf) (fun _ V2 hV => ⟨by rw [hv, e1], cLE_rf, fin_q h hP hm hm3 hgl hQ hf hV (by decide)⟩) (fun hc' => absurd ?_ hc')) (by decide)
      rw [hv]
      omega
    · obtain ⟨K, D, hf⟩ := FD_ex (S := V 305) hgl.1.1
      refine CC_le (qm_237 (g := m) (K := K) (D := D) (RH_tq hm hm3 hgl.1 (sM_o (by decide)) (sM_o (by omega)) hf) (fun hc' => absurd ?_ hc) (fun hc' V2 hV => ⟨rfl, cLE_rf, fin_15 h hP hm hm3 hgl hV ?_ ?_⟩)) (by decide)
      · rw [sM_o (by omega)] at hc'
        omega
      · rw [if_pos (by omega), if_neg (by omega)]
      · decide
theorem ca_104 (h : RC c V) : GC c V 104 238 [] := by
  obtain ⟨c1, c2, g, hP, htp, htr, ⟨hz, hn⟩ | ⟨m, hm, hm3, hgl⟩⟩ := id h
  · have e4 : V g 4 0 = 0 := hn.1.2.2.2.2.1
    have e1 : V g 1 0 = 0 := hn.1.2.1
    refine CC_le (qc_104 (S := V 305) (G := V 305) hP (fun _ => e1) (fun q => by omega) (fun hc => by omega) (fun _ => ⟨-1, rfl, ?_⟩)) (by decide)
    refine CC_le (qz_238 (by rw [sM_o (by decide)]; exact hz) (fun V2 hV => ⟨rfl, cLE_rf, fin_n h hP hz hn hV ?_ (by decide)⟩)) (by decide)
    exact if_neg (by omega)
  · have hT : TDY V (V 305) (V m) g := ⟨hP, hgl.1, hgl.2.1⟩
    obtain ⟨z0, z1, z4, e0, e1, e4⟩ := GL_sz hgl.1
    refine CC_le (qc_104 (S := V 305) (G := V m) hP (fun q => by omega) (fun _ => hT) (fun hc V' hQ hf => ⟨_, rfl, ?_⟩) (fun hc => ⟨-1, rfl, ?_⟩)) (by decide)
    · have h5 : V' 305 = V 305 := tq_o hQ (by omega)
      have hv : V' m = V m := tq_o hQ (by omega)
      refine CC_le (qm_238 (g := m) (K := V' 236) (D := V' 235) (RH_tq hm hm3 hgl.1 h5 hv hf) (fun _ V2 hV => ⟨rfl, cLE_rf, fin_q h hP hm hm3 hgl hQ hf hV (by decide)⟩)) (by decide)
    · omega
theorem ca_105 {d p : Int} (h : RC c V) : GC c V 105 240 [vI d, vI p] := by
  obtain ⟨c1, c2, g, hP, htp, htr, ⟨hz, hn⟩ | ⟨m, hm, hm3, hgl⟩⟩ := id h
  · have e4 : V g 4 0 = 0 := hn.1.2.2.2.2.1
    have e1 : V g 1 0 = 0 := hn.1.2.1
    refine CC_le (qc_105 (S := V 305) (G := V 305) hP (fun _ => e1) (fun q => by omega) (fun hc => by omega) (fun _ => ⟨-1, rfl, ?_⟩)) (by decide)
    refine CC_le (qz_240 (by rw [sM_o (by decide)]; exact hz) (fun V2 hV => ⟨rfl, cLE_rf, fin_n h hP hz hn hV ?_ (by decide)⟩)) (by decide)
    exact if_neg (by omega)
  · have hT : TDY V (V 305) (V m) g := ⟨hP, hgl.1, hgl.2.1⟩
    obtain ⟨z0, z1, z4, e0, e1, e4⟩ := GL_sz hgl.1
    refine CC_le (qc_105 (S := V 305) (G := V m) hP (fun q => by omega) (fun _ => hT) (fun hc V' hQ hf => ⟨_, rfl, ?_⟩) (fun hc => ⟨-1, rfl, ?_⟩)) (by decide)
    · have h5 : V' 305 = V 305 := tq_o hQ (by omega)
      have hv : V' m = V m := tq_o hQ (by omega)
      refine CC_le (qm_240 (g := m) (K := V' 236) (D := V' 235) (RH_tq hm hm3 hgl.1 h5 hv hf) (fun _ V2 hV => ⟨rfl, cLE_rf, fin_q h hP hm hm3 hgl hQ hf hV (by decide)⟩) (fun hc' => absurd ?_ hc')) (by decide)
      rw [hv]
      omega
    · obtain ⟨K, D, hf⟩ := FD_ex (S := V 305) hgl.1.1
      refine CC_le (qm_240 (g := m) (K := K) (D := D) (RH_tq hm hm3 hgl.1 (sM_o (by decide)) (sM_o (by omega)) hf) (fun hc' => absurd ?_ hc) (fun hc' V2 hV => ⟨rfl, cLE_rf, fin_15 h hP hm hm3 hgl hV ?_ ?_⟩)) (by decide)
      · rw [sM_o (by omega)] at hc'
        omega
      · rw [sM_o (by omega), e0, e4]
      · rw [sM_o (by omega)]
        repeat' split
        all_goals decide
theorem ca_106 {d k : Int} (h : RC c V) : GC c V 106 241 [vI d, vI k] := by
  obtain ⟨c1, c2, g, hP, htp, htr, ⟨hz, hn⟩ | ⟨m, hm, hm3, hgl⟩⟩ := id h
  · have e4 : V g 4 0 = 0 := hn.1.2.2.2.2.1
    have e1 : V g 1 0 = 0 := hn.1.2.1
    refine CC_le (qc_106 (S := V 305) (G := V 305) hP (fun _ => e1) (fun q => by omega) (fun hc => by omega) (fun _ => ⟨-1, rfl, ?_⟩)) (by decide)
    refine CC_le (qz_241 (by rw [sM_o (by decide)]; exact hz) (fun V2 hV => ⟨rfl, cLE_rf, fin_n h hP hz hn hV ?_ (by decide)⟩)) (by decide)
    exact if_neg (by omega)
  · have hT : TDY V (V 305) (V m) g := ⟨hP, hgl.1, hgl.2.1⟩
    obtain ⟨z0, z1, z4, e0, e1, e4⟩ := GL_sz hgl.1
    refine CC_le (qc_106 (S := V 305) (G := V m) hP (fun q => by omega) (fun _ => hT) (fun hc V' hQ hf => ⟨_, rfl, ?_⟩) (fun hc => ⟨-1, rfl, ?_⟩)) (by decide)
    · have h5 : V' 305 = V 305 := tq_o hQ (by omega)
      have hv : V' m = V m := tq_o hQ (by omega)
      refine CC_le (qm_241 (g := m) (K := V' 236) (D := V' 235) (RH_tq hm hm3 hgl.1 h5 hv hf) (fun _ V2 hV => ⟨by rw [hv, e4], cLE_rf, fin_q h hP hm hm3 hgl hQ hf hV (by decide)⟩) (fun hc' => absurd ?_ hc')) (by decide)
      rw [hv]
      omega
    · obtain ⟨K, D, hf⟩ := FD_ex (S := V 305) hgl.1.1
      refine CC_le (qm_241 (g := m) (K := K) (D := D) (RH_tq hm hm3 hgl.1 (sM_o (by decide)) (sM_o (by omega)) hf) (fun hc' => absurd ?_ hc) (fun hc' V2 hV => ⟨rfl, cLE_rf, fin_15 h hP hm hm3 hgl hV ?_ ?_⟩)) (by decide)
      · rw [sM_o (by omega)] at hc'
        omega
      · rw [sM_o (by omega), e0, e1]
      · rw [sM_o (by omega)]
        repeat' split
        all_goals decide
theorem ca_107 {d : Int} (h : RC c V) : GC c V 107 245 [vI d] := by
  obtain ⟨c1, c2, g, hP, htp, htr, ⟨hz, hn⟩ | ⟨m, hm, hm3, hgl⟩⟩ := id h
  · have e4 : V g 4 0 = 0 := hn.1.2.2.2.2.1
    have e1 : V g 1 0 = 0 := hn.1.2.1
    refine CC_le (qc_107 (S := V 305) (G := V 305) hP (fun _ => e1) (fun q => by omega) (fun hc => by omega) (fun _ => ⟨-1, rfl, ?_⟩)) (by decide)
    refine CC_le (qz_245 (by rw [sM_o (by decide)]; exact hz) (fun V2 hV => ⟨rfl, cLE_rf, fin_n h hP hz hn hV ?_ (by decide)⟩)) (by decide)
    exact if_neg (by omega)
  · have hT : TDY V (V 305) (V m) g := ⟨hP, hgl.1, hgl.2.1⟩
    obtain ⟨z0, z1, z4, e0, e1, e4⟩ := GL_sz hgl.1
    refine CC_le (qc_107 (S := V 305) (G := V m) hP (fun q => by omega) (fun _ => hT) (fun hc V' hQ hf => ⟨_, rfl, ?_⟩) (fun hc => ⟨-1, rfl, ?_⟩)) (by decide)
    · have h5 : V' 305 = V 305 := tq_o hQ (by omega)
      have hv : V' m = V m := tq_o hQ (by omega)
      refine CC_le (qm_245 (g := m) (K := V' 236) (D := V' 235) (RH_tq hm hm3 hgl.1 h5 hv hf) (fun _ V2 hV => ⟨rfl, cLE_rf, fin_q h hP hm hm3 hgl hQ hf hV (by decide)⟩) (fun hc' => absurd ?_ hc')) (by decide)
      rw [hv]
      omega
    · obtain ⟨K, D, hf⟩ := FD_ex (S := V 305) hgl.1.1
      refine CC_le (qm_245 (g := m) (K := K) (D := D) (RH_tq hm hm3 hgl.1 (sM_o (by decide)) (sM_o (by omega)) hf) (fun hc' => absurd ?_ hc) (fun hc' V2 hV => ⟨rfl, cLE_rf, fin_15 h hP hm hm3 hgl hV ?_ ?_⟩)) (by decide)
      · rw [sM_o (by omega)] at hc'
        omega
      · rw [if_pos (by omega), if_neg (by omega)]
      · decide
theorem ca_108 (h : RC c V) : GC c V 108 246 [] := by
  obtain ⟨c1, c2, g, hP, htp, htr, ⟨hz, hn⟩ | ⟨m, hm, hm3, hgl⟩⟩ := id h
  · have e4 : V g 4 0 = 0 := hn.1.2.2.2.2.1
    have e1 : V g 1 0 = 0 := hn.1.2.1
    refine CC_le (qc_108 (S := V 305) (G := V 305) hP (fun _ => e1) (fun q => by omega) (fun hc => by omega) (fun _ => ⟨-1, rfl, ?_⟩)) (by decide)
    refine CC_le (qz_246 (by rw [sM_o (by decide)]; exact hz) (fun V2 hV => ⟨rfl, cLE_rf, fin_n h hP hz hn hV ?_ (by decide)⟩)) (by decide)
    exact if_neg (by omega)
  · have hT : TDY V (V 305) (V m) g := ⟨hP, hgl.1, hgl.2.1⟩
    obtain ⟨z0, z1, z4, e0, e1, e4⟩ := GL_sz hgl.1
    refine CC_le (qc_108 (S := V 305) (G := V m) hP (fun q => by omega) (fun _ => hT) (fun hc V' hQ hf => ⟨_, rfl, ?_⟩) (fun hc => ⟨-1, rfl, ?_⟩)) (by decide)
    · have h5 : V' 305 = V 305 := tq_o hQ (by omega)
      have hv : V' m = V m := tq_o hQ (by omega)
      refine CC_le (qm_246 (g := m) (K := V' 236) (D := V' 235) (RH_tq hm hm3 hgl.1 h5 hv hf) (fun _ V2 hV => ⟨rfl, cLE_rf, fin_q h hP hm hm3 hgl hQ hf hV (by decide)⟩)) (by decide)
    · omega
theorem ca_109 {p : Int} (h : RC c V) : GC c V 109 247 [vI p] := by
  obtain ⟨c1, c2, g, hP, htp, htr, ⟨hz, hn⟩ | ⟨m, hm, hm3, hgl⟩⟩ := id h
  · have e4 : V g 4 0 = 0 := hn.1.2.2.2.2.1
    have e1 : V g 1 0 = 0 := hn.1.2.1
    refine CC_le (qc_109 (S := V 305) (G := V 305) hP (fun _ => e1) (fun q => by omega) (fun hc => by omega) (fun _ => ⟨-1, rfl, ?_⟩)) (by decide)
    refine CC_le (qz_247 (by rw [sM_o (by decide)]; exact hz) (fun V2 hV => ⟨rfl, cLE_rf, fin_n h hP hz hn hV ?_ (by decide)⟩)) (by decide)
    exact if_neg (by omega)
  · have hT : TDY V (V 305) (V m) g := ⟨hP, hgl.1, hgl.2.1⟩
    obtain ⟨z0, z1, z4, e0, e1, e4⟩ := GL_sz hgl.1
    refine CC_le (qc_109 (S := V 305) (G := V m) hP (fun q => by omega) (fun _ => hT) (fun hc V' hQ hf => ⟨_, rfl, ?_⟩) (fun hc => ⟨-1, rfl, ?_⟩)) (by decide)
    · have h5 : V' 305 = V 305 := tq_o hQ (by omega)
      have hv : V' m = V m := tq_o hQ (by omega)
      refine CC_le (qm_247 (g := m) (K := V' 236) (D := V' 235) (RH_tq hm hm3 hgl.1 h5 hv hf) (fun _ V2 hV => ⟨rfl, cLE_rf, fin_q h hP hm hm3 hgl hQ hf hV (by decide)⟩) (fun hc' => absurd ?_ hc')) (by decide)
      rw [hv]
      omega
    · obtain ⟨K, D, hf⟩ := FD_ex (S := V 305) hgl.1.1
      refine CC_le (qm_247 (g := m) (K := K) (D := D) (RH_tq hm hm3 hgl.1 (sM_o (by decide)) (sM_o (by omega)) hf) (fun hc' => absurd ?_ hc) (fun hc' V2 hV => ⟨rfl, cLE_rf, fin_15 h hP hm hm3 hgl hV ?_ ?_⟩)) (by decide)
      · rw [sM_o (by omega)] at hc'
        omega
      · rw [if_neg (by omega)]
      · decide
theorem ca_110 {p : Int} (h : RC c V) : GC c V 110 249 [vI p] := by
  obtain ⟨c1, c2, g, hP, htp, htr, ⟨hz, hn⟩ | ⟨m, hm, hm3, hgl⟩⟩ := id h
  · have e4 : V g 4 0 = 0 := hn.1.2.2.2.2.1
    have e1 : V g 1 0 = 0 := hn.1.2.1
    refine CC_le (qc_110 (S := V 305) (G := V 305) hP (fun _ => e1) (fun q => by omega) (fun hc => by omega) (fun _ => ⟨-1, rfl, ?_⟩)) (by decide)
    refine CC_le (qz_249 (by rw [sM_o (by decide)]; exact hz) (fun V2 hV => ⟨rfl, cLE_rf, fin_n h hP hz hn hV ?_ (by decide)⟩)) (by decide)
    exact if_neg (by omega)
  · have hT : TDY V (V 305) (V m) g := ⟨hP, hgl.1, hgl.2.1⟩
    obtain ⟨z0, z1, z4, e0, e1, e4⟩ := GL_sz hgl.1
    refine CC_le (qc_110 (S := V 305) (G := V m) hP (fun q => by omega) (fun _ => hT) (fun hc V' hQ hf => ⟨_, rfl, ?_⟩) (fun hc => ⟨-1, rfl, ?_⟩)) (by decide)
    · have h5 : V' 305 = V 305 := tq_o hQ (by omega)
      have hv : V' m = V m := tq_o hQ (by omega)
      refine CC_le (qm_249 (g := m) (K := V' 236) (D := V' 235) (RH_tq hm hm3 hgl.1 h5 hv hf) (fun _ V2 hV => ⟨rfl, cLE_rf, fin_q h hP hm hm3 hgl hQ hf hV (by decide)⟩) (fun hc' => absurd ?_ hc')) (by decide)
      rw [hv]
      omega
    · obtain ⟨K, D, hf⟩ := FD_ex (S := V 305) hgl.1.1
      refine CC_le (qm_249 (g := m) (K := K) (D := D) (RH_tq hm hm3 hgl.1 (sM_o (by decide)) (sM_o (by omega)) hf) (fun hc' => absurd ?_ hc) (fun hc' V2 hV => ⟨rfl, cLE_rf, fin_15 h hP hm hm3 hgl hV ?_ ?_⟩)) (by decide)
      · rw [sM_o (by omega)] at hc'
        omega
      · rw [if_neg (by omega)]
      · decide
theorem ca_111 {d : Int} (h : RC c V) : GC c V 111 252 [vI d] := by
  obtain ⟨c1, c2, g, hP, htp, htr, ⟨hz, hn⟩ | ⟨m, hm, hm3, hgl⟩⟩ := id h
  · have e4 : V g 4 0 = 0 := hn.1.2.2.2.2.1
    have e1 : V g 1 0 = 0 := hn.1.2.1
    refine CC_le (qc_111 (S := V 305) (G := V 305) hP (fun _ => e1) (fun q => by omega) (fun hc => by omega) (fun _ => ⟨-1, rfl, ?_⟩)) (by decide)
    refine CC_le (qz_252 (by rw [sM_o (by decide)]; exact hz) (fun V2 hV => ⟨rfl, cLE_rf, fin_n h hP hz hn hV ?_ (by decide)⟩)) (by decide)
    exact if_neg (by omega)
  · have hT : TDY V (V 305) (V m) g := ⟨hP, hgl.1, hgl.2.1⟩
    obtain ⟨z0, z1, z4, e0, e1, e4⟩ := GL_sz hgl.1
    refine CC_le (qc_111 (S := V 305) (G := V m) hP (fun q => by omega) (fun _ => hT) (fun hc V' hQ hf => ⟨_, rfl, ?_⟩) (fun hc => ⟨-1, rfl, ?_⟩)) (by decide)
    · have h5 : V' 305 = V 305 := tq_o hQ (by omega)
      have hv : V' m = V m := tq_o hQ (by omega)
      refine CC_le (qm_252 (g := m) (K := V' 236) (D := V' 235) (RH_tq hm hm3 hgl.1 h5 hv hf) (fun _ V2 hV => ⟨rfl, cLE_rf, fin_q h hP hm hm3 hgl hQ hf hV (by decide)⟩) (fun hc' => absurd ?_ hc')) (by decide)
      rw [hv]
      omega
    · obtain ⟨K, D, hf⟩ := FD_ex (S := V 305) hgl.1.1
      refine CC_le (qm_252 (g := m) (K := K) (D := D) (RH_tq hm hm3 hgl.1 (sM_o (by decide)) (sM_o (by omega)) hf) (fun hc' => absurd ?_ hc) (fun hc' V2 hV => ⟨rfl, cLE_rf, fin_15 h hP hm hm3 hgl hV ?_ ?_⟩)) (by decide)
      · rw [sM_o (by omega)] at hc'
        omega
      · rw [if_pos (by omega), if_neg (by omega)]
      · decide
theorem ca_112 (h : RC c V) : GC c V 112 253 [] := by
  obtain ⟨c1, c2, g, hP, htp, htr, ⟨hz, hn⟩ | ⟨m, hm, hm3, hgl⟩⟩ := id h
  · have e4 : V g 4 0 = 0 := hn.1.2.2.2.2.1
    have e1 : V g 1 0 = 0 := hn.1.2.1
    refine CC_le (qc_112 (S := V 305) (G := V 305) hP (fun _ => e1) (fun q => by omega) (fun hc => by omega) (fun _ => ⟨-1, rfl, ?_⟩)) (by decide)
    refine CC_le (qz_253 (by rw [sM_o (by decide)]; exact hz) (fun V2 hV => ⟨rfl, cLE_rf, fin_n h hP hz hn hV ?_ (by decide)⟩)) (by decide)
    exact if_neg (by omega)
  · have hT : TDY V (V 305) (V m) g := ⟨hP, hgl.1, hgl.2.1⟩
    obtain ⟨z0, z1, z4, e0, e1, e4⟩ := GL_sz hgl.1
    refine CC_le (qc_112 (S := V 305) (G := V m) hP (fun q => by omega) (fun _ => hT) (fun hc V' hQ hf => ⟨_, rfl, ?_⟩) (fun hc => ⟨-1, rfl, ?_⟩)) (by decide)
    · have h5 : V' 305 = V 305 := tq_o hQ (by omega)
      have hv : V' m = V m := tq_o hQ (by omega)
      refine CC_le (qm_253 (g := m) (K := V' 236) (D := V' 235) (RH_tq hm hm3 hgl.1 h5 hv hf) (fun _ V2 hV => ⟨rfl, cLE_rf, fin_q h hP hm hm3 hgl hQ hf hV (by decide)⟩)) (by decide)
    · omega
end CAL
