/-! THE END OF THE MEANING LEVEL -/
theorem nwR_L {C : gOrc} {ci m : Nat} {fs : List gAV} {L : gLo} {h : gH} : nwR C ci fs m a0 L h = nwR C ci fs m a0 [] h := rfl
theorem naR_L {ty : Nat} {z : Int} {L : gLo} {h : gH} : naR ty (kI z) L h = naR ty (kI z) [] h := rfl
def InvG (i : Nat) (h : gH) : Prop := ∃ (c : cT) (V : Mem), mH c V h ∧ RC c V ∧ i ≤ 3072 ∧ i % 6 = 0 ∧ c.2.1 ≤ 400 + 25 * (i / 6) ∧ c.2.2 ≤ 20000 + 2000 * (i / 6)
theorem InvG_n {i : Nat} {c c' : cT} {V' : Mem} {h' : gH} (hi : i + 6 ≤ 3072) (h6 : i % 6 = 0) (r1 : c.2.1 ≤ 400 + 25 * (i / 6)) (r2 : c.2.2 ≤ 20000 + 2000 * (i / 6)) (H : mH c' V' h') (le : cLE c c') (hr : RC c' V') : InvG (i + 6) h' := by
  obtain ⟨l1, l2⟩ := le
  refine ⟨c', V', H, hr, hi, by omega, ?_, ?_⟩
  · have : (i + 6) / 6 = i / 6 + 1 := by omega
    omega
  · have : (i + 6) / 6 = i / 6 + 1 := by omega
    omega
def okO (o : Option gH) (P : gH → Prop) : Prop := ∃ h', o = some h' ∧ P h'
theorem law_good : lawGood := by
  obtain ⟨h1, h2, e1, e2, e3⟩ := st_all
  refine ⟨nB, 60, 0, 305, 330, h1, h2, hS, by decide, by decide, fun L => nwR_L.trans e1, fun L => nwR_L.trans e2, fun L => naR_L.trans e3, fun xs len hlen => ⟨InvG, ?_, ?_, ?_⟩⟩
  · exact ⟨hS.1, rdM hS, mH_st, RC_st, by decide, by decide, Nat.le_trans hS_r.1 (Nat.le_add_right _ _), Nat.le_trans hS_r.2 (Nat.le_add_right _ _)⟩
  · rintro i h ⟨c, V, H, hr, hi, h6, r1, r2⟩
    obtain ⟨fs, f1, -⟩ := mH_ob H (k_0 (c := c.1))
    rw [H.1]
    exact ⟨by omega, by omega, fs, f1⟩
  rintro i h hi ⟨c, V, H, hr, hi0, h6, r1, r2⟩
  have hi7 : i + 6 ≤ 3072 := by omega
  have two : ∀ {mx mm : Nat} {as : List gAV}, GC c V mx mm as → ∃ h', gTwo (gOr nB 60) 0 305 mx mm as h = some h' ∧ InvG (i + 6) h' := fun hg => by
    obtain ⟨h', c', V', e, H', le, r⟩ := step_two (Nat.le_refl nB) (Nat.le_refl 60) hg H
    exact ⟨h', e, InvG_n hi7 h6 r1 r2 H' le r⟩
  show okO (gStep (gOr nB 60) nB 0 305 330 xs i h) (InvG (i + 6))
  unfold gStep
  split
  · exact two (ca_88 hr)
  · exact two (ca_89 hr)
  · exact two (ca_90 hr)
  · exact two (ca_91 hr)
  · exact two (ca_92 hr)
  · exact two (ca_93 hr)
  · exact two (ca_94 hr)
  · exact two (ca_95 hr)
  · exact two (ca_96 hr)
  · exact two (ca_97 hr)
  · exact two (ca_98 hr)
  · exact two (ca_99 hr)
  · exact two (ca_100 hr)
  · exact two (ca_101 hr)
  · exact two (ca_102 hr)
  · exact two (ca_103 hr)
  · exact two (ca_104 hr)
  · exact two (ca_105 hr)
  · exact two (ca_106 hr)
  · exact two (ca_107 hr)
  · exact two (ca_108 hr)
  · exact two (ca_109 hr)
  · exact two (ca_110 hr)
  · exact two (ca_111 hr)
  · exact two (ca_112 hr)
  · exact two (ca_113 hr)
  · exact two (ca_114 hr)
  · exact two (ca_115 hr)
  · exact two (ca_116 hr)
  · exact two (ca_117 hr)
  · exact two (ca_118 hr)
  · exact two (ca_119 hr)
  · exact two (ca_120 hr)
  · exact two (ca_121 hr)
  · exact two (ca_122 hr)
  · exact two (ca_123 hr)
  · exact two (ca_124 hr)
  · exact two (ca_125 hr)
  · exact two (ca_126 hr)
  · exact two (ca_127 hr)
  · exact two (ca_128 hr)
  · exact two (ca_129 hr)
  · obtain ⟨h', c', V', e, H', le, r⟩ := step_twoL (Nat.le_refl nB) (Nat.le_refl 60) (ca_130 hr) H
    exact ⟨h', e, InvG_n hi7 h6 r1 r2 H' le r⟩
  · exact two (ca_131 hr)
  · exact two (ca_132 hr)
  · exact two (ca_133 hr)
  · exact two (ca_134 hr)
  · exact two (ca_135 hr)
  · exact two (ca_136 hr)
  · exact two (ca_137 hr)
  · exact two (ca_138 hr)
  · exact two (ca_139 hr)
  · obtain ⟨h', c', V', e, H', le, r⟩ := step_led (p := (xs (i + 1)).toInt) (by have q := Int32.toInt_lt (xs (i + 1)); omega) (Nat.le_refl nB) (Nat.le_refl 60) hr H
    exact ⟨h', e, InvG_n hi7 h6 r1 r2 H' le r⟩
  · exact two (ca_141 hr)
  · exact two (ca_142 hr)
  · exact ⟨h, rfl, InvG_n hi7 h6 r1 r2 H cLE_rf hr⟩
