/-! THE CLASS'S READER: an empty draft; whether there is room -/
section CMI
variable {c : cT} {V : Mem} {g : Nat} {G : oV} {R : Option gAV → cT → Mem → Prop} {t : Int → Int} {N q : Int}
theorem bset_none {P : Int → Bool} (h : ∀ j : Int, 0 ≤ j → j < 7 → P j = false) : bset 7 P = 0 := by
  rw [bset_congr (Q := fun _ => false) (fun j j0 j1 => h j j0 (by omega))]
  rfl
theorem cc_35 (hg : mcl c.1 g = some 4) (hz : ∀ k i, G k i = 0) (hq : ∀ W, (∀ a, a ≠ g → W a = V a) → DRA t N W g G → R none c W) : CC 2 35 [vR (some g)] c V R := by
  refine CC_of mt_35 gb_35 (by decide) (by decide) (rcb_o hg) (Nat.le_of_ble_eq_true rfl) fun n dd hn hd => ?_
  show WW (bX4_clear (gOr n dd)) n [some (vR (some (g)))] _ _ _
  unfold bX4_clear
  have hn0 : 1000000000 ≤ n := hn
  refine WW_eq (sO_id (a := g)).symm ?_
  have up : ∀ (X : oV) (k : Nat) (f : Int → Int), sM (sO V g X) g k f = sO V g (sF X k f) := fun X k f => by rw [sM, sO_sO, sO_at]
  refine WW_se (WW_se (WW_pf rfl (PE_lR rfl) hg PE_kI (SQ_n (WW_se (WW_pf rfl (PE_lR rfl) hg PE_kI (SQ_n (WW_se (WW_pf rfl (PE_lR rfl) hg PE_kI (SQ_n (WW_se (WW_pf rfl (PE_lR rfl) hg PE_kI (SQ_n (WW_se (WW_pf rfl (PE_lR rfl) hg PE_kI (SQ_n (WW_se (WW_pf rfl (PE_lR rfl) hg PE_kI (SQ_n (WW_se (WW_pf rfl (PE_lR rfl) hg PE_kI (SQ_n (WW_se (WW_pf rfl (PE_lR rfl) hg PE_kI (SQ_n ?_))))))))))))))))))))))))
  rw [up, up, up, up, up, up, up, up]
  refine WW_se (WW_cV (PE_aCR (PE_fA (ty := 0) (ci := 4) (k := 17) rfl (by decide) (PE_lR rfl) hg) (PE_aCI PE_kI PE_a0)) hn (cc_316 (ci := 4) (k := 17) rfl hg (by decide) ⟨rfl, SQ_n ?_⟩) (by omega))
  rw [up]
  refine WW_se (WW_cV (PE_aCR (PE_fA (ty := 0) (ci := 4) (k := 18) rfl (by decide) (PE_lR rfl) hg) (PE_aCI PE_kI PE_a0)) hn (cc_316 (ci := 4) (k := 18) rfl hg (by decide) ⟨rfl, SQ_n ?_⟩) (by omega))
  rw [up]
  refine WW_cV (PE_aCR (PE_fA (ty := 0) (ci := 4) (k := 19) rfl (by decide) (PE_lR rfl) hg) (PE_aCI PE_kI PE_a0)) hn (cc_316 (ci := 4) (k := 19) rfl hg (by decide) ⟨rfl, SQ_n (WW_rtV ⟨_, rfl, rfl, ?_⟩)⟩) (by omega)
  rw [up]
  have z4 : G 4 0 = 0 := hz 4 0
  refine hq _ (fun a ha => sO_ne ha) ⟨?_, ?_, ?_, ?_, ?_, ?_, ?_, ?_, ?_⟩
  · rw [sO_at]
    simp only [hz]
    exact ⟨rfl, rfl, rfl, rfl, rfl, rfl, rfl, rfl⟩
  · intro k k0 kk; rw [hz] at kk; omega
  · intro k k0 kk; rw [hz] at kk; omega
  · intro k k0 kk; rw [hz] at kk; omega
  · intro k k0 kk; rw [hz] at kk; omega
  · intro k i k0 kk; rw [hz] at kk; omega
  · intro k i k0 kk; rw [hz] at kk; omega
  · intro d d0 d1
    rw [sO_at]
    have e : ∀ P : Int → Bool, bset 7 (fun p => decide (p < G 4 0) && P p) = 0 := fun P => bset_none fun j j0 j1 => by rw [decide_eq_false (by omega)]; rfl
    refine ⟨?_, ?_, ?_⟩
    · rw [e]; rfl
    · rw [e]; rfl
    · rw [e]; rfl
  · intro k k0 kk; rw [hz] at kk; omega
def rmB (G : oV) (l : Int) : Bool := if l = 1 then decide (G 4 0 < 7) else if l = 3 then decide (G 5 0 < 10) else if l = 4 then decide (G 6 0 < 6) else if l = 5 then decide (G 7 0 < 8) else true
theorem pc_65 {l : Int} (hl0 : 0 ≤ l) (hl5 : l ≤ 5) (hg : mcl c.1 g = some 4) (h8 : V 84 8 0 = (g : Int)) (hD : DRA t N V g G) : PC 1 65 [vR (some 84), vI l] c V (some (vB (rmB G l))) := by
  obtain ⟨⟨-, -, -, -, D4, D5, D6, D7⟩, -⟩ := hD
  refine PC_of ?_
  refine CC_of mt_65 gb_65 (by decide) (by decide) (rcb_o k_84) (Nat.le_of_ble_eq_true rfl) fun n dd hn hd => ?_
  show WW (bX9_hasRoom (gOr n dd)) n [some (vR (some (84))), some (vI (l))] _ _ _
  unfold bX9_hasRoom
  have hn0 : 1000000000 ≤ n := hn
  have pf : ∀ {k : Nat} {x : Int}, (tab 4)[k]? = some (0, 0, 0) → V g k 0 = x → PE (fI 4 k (fR 9 8 (lR 0))) [some (vR (some 84)), some (vI l)] c V x := fun {k x} hk hx => by
    have := PE_fI (c := c) (V := V) (L := [some (vR (some 84)), some (vI l)]) hk (PE_fP (ci := 9) (k := 8) rfl (PE_lR (i := 0) rfl) k_84 h8) hg
    rwa [hx] at this
  refine WW_swb (PE_lI rfl) ?_
  rcases (by omega : l = 0 ∨ l = 1 ∨ l = 2 ∨ l = 3 ∨ l = 4 ∨ l = 5) with rfl | rfl | rfl | rfl | rfl | rfl
  · exact WW_rtB PE_kB (BQ_r ⟨_, rfl, rfl, rfl, rfl, rfl⟩)
  · exact WW_rtB (PE_cm (op := .lt) (pf (k := 4) rfl D4) PE_kI) (BQ_r ⟨_, rfl, by cases cmB ClassFile.Cond.lt (G 4 0) 7 <;> rfl, rfl, rfl, rfl⟩)
  · exact WW_rtB PE_kB (BQ_r ⟨_, rfl, rfl, rfl, rfl, rfl⟩)
  · exact WW_rtB (PE_cm (op := .lt) (pf (k := 6) rfl D5) PE_kI) (BQ_r ⟨_, rfl, by cases cmB ClassFile.Cond.lt (G 5 0) 10 <;> rfl, rfl, rfl, rfl⟩)
  · exact WW_rtB (PE_cm (op := .lt) (pf (k := 10) rfl D6) PE_kI) (BQ_r ⟨_, rfl, by cases cmB ClassFile.Cond.lt (G 6 0) 6 <;> rfl, rfl, rfl, rfl⟩)
  · exact WW_rtB (PE_cm (op := .lt) (pf (k := 13) rfl D7) PE_kI) (BQ_r ⟨_, rfl, by cases cmB ClassFile.Cond.lt (G 7 0) 8 <;> rfl, rfl, rfl, rfl⟩)
end CMI
