/-! STORES: into fields, into arrays, into locals -/
def gFits (ty : FieldType) (v : gAV) : Prop := ∀ (adK : Nat → Nat) (ws : va_W) (w : Value), gVr adK ws w v → narrow ty w = w ∧ fits ty w = true
theorem gFits_i (z : Int) : gFits .int (vI z) := by
  rintro adK ws w ⟨i, rfl, -⟩
  exact ⟨rfl, rfl⟩
theorem gFits_l (z : Int) : gFits .long (vL z) := by
  rintro adK ws w ⟨i, rfl, -⟩
  exact ⟨rfl, rfl⟩
theorem gB_val {i : Int32} {b : Bool} (h : i.toInt = if b = true then 1 else 0) : i = if b = true then 1 else 0 := by
  cases b with
  | true => exact Int32.toInt_inj.mp h
  | false => exact Int32.toInt_inj.mp h
theorem gFits_b (b : Bool) : gFits .boolean (vB b) := by
  rintro adK ws w ⟨i, rfl, h⟩
  rw [gB_val h]
  cases b <;> exact ⟨rfl, rfl⟩
theorem gFits_o (C : String) (r : Option Nat) : gFits (.object C) (vR r) := by
  intro adK ws w h
  match r, h with
  | none, h =>
    have h1 : w = .null := h
    subst h1
    exact ⟨rfl, rfl⟩
  | some k, h =>
    obtain ⟨x, e, rfl, -⟩ := h
    exact ⟨rfl, rfl⟩
theorem gFits_a (t : FieldType) (r : Option Nat) : gFits (.array t) (vR r) := by
  intro adK ws w h
  match r, h with
  | none, h =>
    have h1 : w = .null := h
    subst h1
    exact ⟨rfl, rfl⟩
  | some k, h =>
    obtain ⟨x, e, rfl, -⟩ := h
    exact ⟨rfl, rfl⟩
/-- a field that may be written here, and its type -/
def gPk (ini : Bool) (own : String) (ix ci kf : Nat) (ty : FieldType) : Prop := ∃ (Cn : String) (T : u_T) (N : Nat), vwCl[ci]? = some (Cn, T, N) ∧ kf < N ∧ parseFieldDescriptor (T kf).2.2.1 = some ty ∧ (((T kf).2.2.2 = false ∧ (Cond.fieldLink own ix (T kf).1 (T kf).2.1 (T kf).2.2.1 ∈ gTw ∨ ∃ host : String, Cond.fieldLinkNest own ix (T kf).1 (T kf).2.1 (T kf).2.2.1 host ∈ gNw)) ∨ ((T kf).2.2.2 = true ∧ ini = true ∧ (T kf).1 = own ∧ Cond.fieldLink own ix (T kf).1 (T kf).2.1 (T kf).2.2.1 ∈ gTw))
theorem gPut_spec {ci kf : Nat} {v : gAV} {h h' : gH} {r : Option Nat} (he : gPut ci kf v h r = some h') : ∃ (a : Nat) (fs : List gAV), r = some a ∧ h.2 a = some (oO ci fs) ∧ kf < fs.length ∧ h' = (h.1, gUp h.2 a (some (oO ci (fs.set kf v)))) := by
  unfold gPut at he
  split at he
  · rename_i a
    split at he
    · rename_i c fs hq
      split at he
      · rename_i hc
        obtain ⟨rfl, h1⟩ := hc
        cases he
        exact ⟨a, fs, rfl, hq, h1, rfl⟩
      · cases he
    · cases he
  · cases he
theorem g_putf {k : gK} {C : gOrc} {Γ : gG} {ws : va_W} {tys : gTs} {h h' : gH} {H : Heap} {locs : List Loc} {pc ix ci kf : Nat} {ty : FieldType} {v : gAV} {r : Option Nat} {ls : Array Slot} {rest : List Value} {w x : Value} (ok : gOK k C Γ) (hS : gS Γ ws tys h H locs) (hf : gPk k.2.2.2 k.2.1 ix ci kf ty) (hfit : gFits ty v) (hd : decode k.1 pc = .ok (.putfield ix, 3)) (hp : gPut ci kf v h r = some h') (hw : gVr Γ.2.1 ws w v) (hx0 : gVr Γ.2.1 ws x (vR r))
    (kk : ∀ (ws' : va_W) (H' : Heap) (locs' : List Loc), gS Γ ws' tys h' H' locs' → gExt ws ws' → gW Γ H' locs' h' (fun m => F0 m (pc + 3) ls rest)) : gW Γ H locs h (fun m => F0 m pc ls (w :: x :: rest)) := by
  obtain ⟨a, fs, rfl, ha, hk, rfl⟩ := gPut_spec hp
  have hft := hfit _ _ _ hw
  obtain ⟨D, adK, adV, A, ⟨p, l, e, R, s, m0, args, below, meth, c, Q⟩, b, d⟩ := Γ
  obtain ⟨⟨hx, hb, hml, hown, hts⟩, hA, hfr, hlo, hE, hC, hIn⟩ := id ok
  obtain ⟨hK, hP, hD, hSS, hR, hb1, hb2⟩ := id hS
  obtain ⟨y, gs, g1, g2, g3⟩ := gHR_obj hR ha
  obtain ⟨y', e0, rfl, g4⟩ := hx0
  rw [g1] at g4
  cases g4
  obtain ⟨Cn, T, N, hc, hkN, hpd, hl⟩ := hf
  obtain ⟨cl1, ⟨ty0, cl2⟩, cl3, cl4, cl5⟩ := gCl_ok hc
  have fin : ∀ (H1 : Heap) (locs1 : List Loc), va_P D vwCl (ws.set a (y, .inr (ci, gs.set kf w))) H1 → va_D A (ws.set a (y, .inr (ci, gs.set kf w))) → va_S A s.heap H1 locs1 → W p l e R s m0 args below meth c H1 locs1 (h.1.2.1 - b.1) (h.1.2.2 - b.2) Q (F0 m0 (pc + 3) ls rest) := by
    intro H1 locs1 hP1 hD1 hS1
    refine kk _ H1 locs1 ⟨hK, hP1, hD1, hS1, gHR_set hR g1 (by rfl) ⟨gs.set kf w, rfl, by simp [g2], fun j u hu => ?_⟩, hb1, hb2⟩ (gExt.set g1 (by rfl))
    by_cases hj : kf = j
    · subst hj
      rw [List.getElem?_set_self hk] at hu
      cases hu
      exact ⟨w, by rw [List.getElem?_set_self (by omega)], gVr_ext (gExt.set g1 (by rfl)) hw⟩
    · rw [List.getElem?_set_ne hj] at hu
      obtain ⟨w', w1, w2⟩ := g3 j u hu
      exact ⟨w', by rw [List.getElem?_set_ne hj]; exact w1, gVr_ext (gExt.set g1 (by rfl)) w2⟩
  rcases hl with ⟨hnf, hl | ⟨host, hl⟩⟩ | ⟨hyf, hini, hdc, hl⟩
  · exact va_put hx hb hts cl1 ty0 cl2 cl3 hown hK hP hD hSS a g1 hc kf hkN (hts _ hl) (fun _ h9 => h9) hnf hpd hft.1 hft.2 (by omega) hd fin
  · exact va_putN hx hb hts cl1 ty0 cl2 cl3 hown hK hP hD hSS a g1 hc kf hkN (va_Nw.use rfl (hE.1 _ hl)) (fun _ h9 => h9) hnf hpd hft.1 hft.2 (by omega) hd fin
  · exact va_putF hx hb hts cl1 ty0 cl2 cl3 hown hK hP hD hSS a g1 hc kf hkN (hts _ hl) (fun _ h9 => h9) hyf (hIn hini) hdc hpd hft.1 hft.2 (by omega) hd fin
theorem gEs_spec {ty : Nat} {x : Int} {h h' : gH} {r : Option Nat} {i : Int} (he : gEs ty x h r i = some h') : ∃ (a n : Nat) (f : Int → Int) (y : Int), r = some a ∧ h.2 a = some (oA ty n f) ∧ 0 ≤ i ∧ i < n ∧ gNar ty x = some y ∧ h' = (h.1, gUp h.2 a (some (oA ty n (gUz f i y)))) := by
  unfold gEs at he
  split at he
  · rename_i a
    split at he
    · rename_i t n f hq
      split at he
      · rename_i hc
        obtain ⟨rfl, h1, h2⟩ := hc
        simp only [Option.bind_eq_some_iff] at he
        obtain ⟨y, hy, he⟩ := he
        cases he
        exact ⟨a, n, f, y, rfl, hq, h1, h2, hy, rfl⟩
      · cases he
    · cases he
  · cases he
theorem gEsq_spec {ty : Nat} {x : Option Nat} {h h' : gH} {r : Option Nat} {i : Int} (he : gEsq ty x h r i = some h') : ∃ (a n : Nat) (f : Int → Option Nat), r = some a ∧ h.2 a = some (oQ ty n f) ∧ 0 ≤ i ∧ i < n ∧ h' = (h.1, gUp h.2 a (some (oQ ty n (gUz f i x)))) := by
  unfold gEsq at he
  split at he
  · rename_i a
    split at he
    · rename_i t n f hq
      split at he
      · rename_i hc
        obtain ⟨rfl, h1, h2⟩ := hc
        cases he
        exact ⟨a, n, f, rfl, hq, h1, h2, rfl⟩
      · cases he
    · cases he
  · cases he
def gNr (ty : Nat) (x : Int32) : Int32 := match ty with
  | 0 => x
  | 1 => vp_nar .byte x
  | _ => vp_nar .boolean x
theorem gNar_i {ty : Nat} {x : Int32} {y : Int} (ht : ty = 0 ∨ ty = 1 ∨ ty = 3) (h : gNar ty x.toInt = some y) : (gNr ty x).toInt = y := by
  rcases ht with rfl | rfl | rfl
  · cases h; rfl
  · cases h
    show (vp_nar .byte x).toInt = zByte x.toInt
    rw [vp_nar_byte]
    simp [zByte]
  · simp only [gNar] at h
    split at h
    · rename_i hx
      cases h
      rcases hx with hx | hx
      · have e : x = 0 := Int32.toInt_inj.mp hx
        subst e; rfl
      · have e : x = 1 := Int32.toInt_inj.mp hx
        subst e; rfl
    · cases h
theorem g_upd {n : Nat} {f : Int → Int} {g : Nat → Int32} (hg : ∀ i : Nat, i < n → f i = (g i).toInt) {j : Nat} {i : Int} (hj : (j : Int) = i) {x : Int32} {y : Int} (hx : x.toInt = y) : ∀ q : Nat, q < n → gUz f i y q = (upd g j x q).toInt := by
  intro q hq
  subst hj
  by_cases e : q = j
  · subst e; simp [gUz, upd, hx]
  · have e2 : ¬ (q : Int) = (j : Int) := fun z => e (by omega)
    simp [gUz, upd, e, e2, hg q hq]
theorem g_updL {n : Nat} {f : Int → Int} {g : Nat → Int64} (hg : ∀ i : Nat, i < n → f i = (g i).toInt) {j : Nat} {i : Int} (hj : (j : Int) = i) {x : Int64} {y : Int} (hx : x.toInt = y) : ∀ q : Nat, q < n → gUz f i y q = (vp_updL g j x q).toInt := by
  intro q hq
  subst hj
  by_cases e : q = j
  · subst e; simp [gUz, vp_updL, hx]
  · have e2 : ¬ (q : Int) = (j : Int) := fun z => e (by omega)
    simp [gUz, vp_updL, e, e2, hg q hq]
theorem g_ast {k : gK} {C : gOrc} {Γ : gG} {ws : va_W} {tys : gTs} {h h' : gH} {H : Heap} {locs : List Loc} {pc ty : Nat} {v i : Int} {r : Option Nat} {ls : Array Slot} {rest : List Value} {w x wi : Value} (ht : ty = 0 ∨ ty = 1 ∨ ty = 3) (ok : gOK k C Γ) (hS : gS Γ ws tys h H locs) (hd : decode k.1 pc = .ok (gStI ty, 1)) (hp : gEs ty v h r i = some h') (hw : gVr Γ.2.1 ws w (vI v)) (hwi : gVr Γ.2.1 ws wi (vI i)) (hx0 : gVr Γ.2.1 ws x (vR r))
    (kk : ∀ (ws' : va_W) (H' : Heap) (locs' : List Loc), gS Γ ws' tys h' H' locs' → gExt ws ws' → gW Γ H' locs' h' (fun m => F0 m (pc + 1) ls rest)) : gW Γ H locs h (fun m => F0 m pc ls (w :: wi :: x :: rest)) := by
  obtain ⟨a, n, f, y, rfl, ha, i0, i1, hy, rfl⟩ := gEs_spec hp
  obtain ⟨D, adK, adV, A, ⟨p, l, e, R, s, m0, args, below, meth, c, Q⟩, b, d⟩ := Γ
  obtain ⟨⟨hx, hb, hml, hown, hts⟩, -⟩ := id ok
  obtain ⟨hK, hP, hD, hSS, hR, hb1, hb2⟩ := id hS
  obtain ⟨iv, rfl, rfl⟩ := hw
  obtain ⟨ii, rfl, rfl⟩ := hwi
  have ht2 : ty ≠ 2 := by omega
  obtain ⟨x1, cA, t0, hn, h3, ⟨h4, -⟩ | ⟨-, g, h5, h6⟩⟩ := gHR_arr hR ha
  · exact absurd h4 ht2
  obtain ⟨x', e0, rfl, h7⟩ := hx0
  rw [h5] at h7
  cases h7
  obtain ⟨j1, j2, j3⟩ := g_idx rfl i0 i1
  have fin : ∀ (H1 : Heap) (locs1 : List Loc), va_P D vwCl (ws.set a (x1, .inl (cA, n, .inl (upd g ii.toNatClampNeg (gNr ty iv))))) H1 → va_D A (ws.set a (x1, .inl (cA, n, .inl (upd g ii.toNatClampNeg (gNr ty iv))))) → va_S A s.heap H1 locs1 → W p l e R s m0 args below meth c H1 locs1 (h.1.2.1 - b.1) (h.1.2.2 - b.2) Q (F0 m0 (pc + 1) ls rest) := by
    intro H1 locs1 hP1 hD1 hS1
    exact kk _ H1 locs1 ⟨hK, hP1, hD1, hS1, gHR_set hR h5 (by rfl) ⟨hn, cA, ⟨t0, h3⟩, Or.inr ⟨ht2, _, rfl, g_upd h6 j2 (gNar_i ht hy)⟩⟩, hb1, hb2⟩ (gExt.set h5 (by rfl))
  rcases ht with rfl | rfl | rfl
  · exact va_iast hx hb hK hP hD hSS a t0 h5 h3 j1 hd fin
  · exact va_bast hx hb hK hP hD hSS a t0 h5 h3 j1 hd fin
  · exact va_zast hx hb hK hP hD hSS a t0 h5 h3 j1 hd fin
theorem g_astl {k : gK} {C : gOrc} {Γ : gG} {ws : va_W} {tys : gTs} {h h' : gH} {H : Heap} {locs : List Loc} {pc : Nat} {v i : Int} {r : Option Nat} {ls : Array Slot} {rest : List Value} {w x wi : Value} (ok : gOK k C Γ) (hS : gS Γ ws tys h H locs) (hd : decode k.1 pc = .ok (.lastore, 1)) (hp : gEs 2 v h r i = some h') (hw : gVr Γ.2.1 ws w (vL v)) (hwi : gVr Γ.2.1 ws wi (vI i)) (hx0 : gVr Γ.2.1 ws x (vR r))
    (kk : ∀ (ws' : va_W) (H' : Heap) (locs' : List Loc), gS Γ ws' tys h' H' locs' → gExt ws ws' → gW Γ H' locs' h' (fun m => F0 m (pc + 1) ls rest)) : gW Γ H locs h (fun m => F0 m pc ls (w :: wi :: x :: rest)) := by
  obtain ⟨a, n, f, y, rfl, ha, i0, i1, hy, rfl⟩ := gEs_spec hp
  obtain ⟨D, adK, adV, A, ⟨p, l, e, R, s, m0, args, below, meth, c, Q⟩, b, d⟩ := Γ
  obtain ⟨⟨hx, hb, hml, hown, hts⟩, -⟩ := id ok
  obtain ⟨hK, hP, hD, hSS, hR, hb1, hb2⟩ := id hS
  obtain ⟨iv, rfl, rfl⟩ := hw
  obtain ⟨ii, rfl, rfl⟩ := hwi
  cases hy
  obtain ⟨x1, cA, t0, hn, h3, ⟨-, g, h5, h6⟩ | ⟨h4, -⟩⟩ := gHR_arr hR ha
  · obtain ⟨x', e0, rfl, h7⟩ := hx0
    rw [h5] at h7
    cases h7
    obtain ⟨j1, j2, j3⟩ := g_idx rfl i0 i1
    refine va_last hx hb hK hP hD hSS a t0 h5 h3 j1 hd fun H1 locs1 hP1 hD1 hS1 => ?_
    exact kk _ H1 locs1 ⟨hK, hP1, hD1, hS1, gHR_set hR h5 (by rfl) ⟨hn, cA, ⟨t0, h3⟩, Or.inl ⟨rfl, _, rfl, g_updL h6 j2 rfl⟩⟩, hb1, hb2⟩ (gExt.set h5 (by rfl))
  · exact absurd rfl h4
theorem g_astq {k : gK} {C : gOrc} {Γ : gG} {ws : va_W} {tys : gTs} {h h' : gH} {H : Heap} {locs : List Loc} {pc ty ci o : Nat} {i : Int} {r : Option Nat} {ls : Array Slot} {rest : List Value} {w x wi : Value} (hq : ∃ q : vw_C, vwCl[ci]? = some q ∧ q.1 = gTq ty) (ho : ∃ (y1 : Nat) (gs : List Value), w = .ref y1 ∧ ws[o]? = some (y1, .inr (ci, gs))) (ok : gOK k C Γ) (hS : gS Γ ws tys h H locs) (hd : decode k.1 pc = .ok (.aastore, 1)) (hp : gEsq ty (some o) h r i = some h') (hwi : gVr Γ.2.1 ws wi (vI i)) (hx0 : gVr Γ.2.1 ws x (vR r))
    (kk : ∀ (ws' : va_W) (H' : Heap) (locs' : List Loc), gS Γ ws' tys h' H' locs' → gExt ws ws' → gW Γ H' locs' h' (fun m => F0 m (pc + 1) ls rest)) : gW Γ H locs h (fun m => F0 m pc ls (w :: wi :: x :: rest)) := by
  obtain ⟨a, n, f, rfl, ha, i0, i1, rfl⟩ := gEsq_spec hp
  obtain ⟨D, adK, adV, A, ⟨p, l, e, R, s, m0, args, below, meth, c, Q⟩, b, d⟩ := Γ
  obtain ⟨⟨hx, hb, hml, hown, hts⟩, -⟩ := id ok
  obtain ⟨hK, hP, hD, hSS, hR, hb1, hb2⟩ := id hS
  obtain ⟨ii, rfl, rfl⟩ := hwi
  obtain ⟨x1, cA, t0, g, hn, h3, h5, h6⟩ := gHR_arq hR ha
  obtain ⟨x', e0, rfl, h7⟩ := hx0
  rw [h5] at h7
  cases h7
  obtain ⟨y1, gs, rfl, y2⟩ := ho
  obtain ⟨q, q1, q2⟩ := hq
  obtain ⟨j1, j2, j3⟩ := g_idx rfl i0 i1
  refine va_astq hx hb hK hP hD hSS a t0 o ci h5 (by rw [q2]; exact h3) y2 q1 j1 hd fun H1 locs1 hP1 hD1 hS1 => ?_
  refine kk _ H1 locs1 ⟨hK, hP1, hD1, hS1, gHR_set hR h5 (by rfl) ⟨hn, cA, ⟨t0, h3⟩, _, rfl, fun z hz => ?_⟩, hb1, hb2⟩ (gExt.set h5 (by rfl))
  by_cases e9 : z = ii.toNatClampNeg
  · have e2 : (z : Int) = ii.toInt := by omega
    rw [show gUz f ii.toInt (some o) (z : Int) = some o by simp [gUz, e2], show va_up g ii.toNatClampNeg (some y1) z = some y1 by simp [va_up, e9]]
    obtain ⟨e3, h9, -⟩ := (gExt.set (e' := .inl (cA, n, .inr (.inr (.inr (.inr (va_up g ii.toNatClampNeg (some y1))))))) h5 rfl) o _ _ y2
    exact ⟨y1, e3, rfl, h9⟩
  · have e2 : ¬ (z : Int) = ii.toInt := by omega
    rw [show gUz f ii.toInt (some o) (z : Int) = f z by simp [gUz, e2], show va_up g ii.toNatClampNeg (some y1) z = g z by simp [va_up, e9]]
    exact gRf_ext (gExt.set h5 (by rfl)) (h6 z hz)
-- locals
def lvL (ls : Array Slot) (n : Nat) : List (Nat × Value) := (List.range n).filterMap (fun j => match (ls[j]? : Option Slot) with
  | some (Slot.val w) => some (j, w)
  | _ => none)
theorem lvL_has {ls : Array Slot} {n : Nat} (hs : ls.size = n) (hw : lv_wf ls) : lv_has ls n (lvL ls n) := by
  refine ⟨hs, hw, fun q hq => ?_⟩
  obtain ⟨j, -, hj⟩ := List.mem_filterMap.mp hq
  split at hj
  · rename_i w h
    cases hj
    exact h
  · cases hj
theorem lvL_mem {ls : Array Slot} {n j : Nat} {w : Value} (hs : ls.size = n) (h : ls[j]? = some (.val w)) : (j, w) ∈ lvL ls n := by
  refine List.mem_filterMap.mpr ⟨j, List.mem_range.mpr (by rw [← hs]; exact lv_lt h), ?_⟩
  rw [h]
theorem gVr_cat {adK : Nat → Nat} {ws : va_W} {w : Value} {v : gAV} (h : gVr adK ws w v) : w.category = 2 ↔ ∃ z : Int, v = vL z := by
  match v, h with
  | .inl z, h =>
    obtain ⟨i, rfl, -⟩ := h
    exact ⟨(fun q => by cases q), (fun q => by obtain ⟨z, q⟩ := q; cases q)⟩
  | .inr (.inl z), h =>
    obtain ⟨i, rfl, -⟩ := h
    exact ⟨fun _ => ⟨z, rfl⟩, fun _ => rfl⟩
  | .inr (.inr (.inl none)), h =>
    have h1 : w = .null := h
    subst h1
    exact ⟨(fun q => by cases q), (fun q => by obtain ⟨z, q⟩ := q; cases q)⟩
  | .inr (.inr (.inl (some k))), h =>
    obtain ⟨x, e, rfl, -⟩ := h
    exact ⟨(fun q => by cases q), (fun q => by obtain ⟨z, q⟩ := q; cases q)⟩
  | .inr (.inr (.inr i)), h =>
    obtain ⟨-, rfl⟩ := h
    exact ⟨(fun q => by cases q), (fun q => by obtain ⟨z, q⟩ := q; cases q)⟩
theorem gClr_spec {i j : Nat} {L : gLo} {v : gAV} (h : (gClr i L)[j]? = some (some v)) : L[j]? = some (some v) ∧ ¬ (j + 1 = i ∧ ∃ z : Int, v = vL z) := by
  cases i with
  | zero => exact ⟨h, fun q => by omega⟩
  | succ i =>
    simp only [gClr] at h
    split at h
    · rename_i z hz
      by_cases hj : i = j
      · subst hj
        rw [List.getElem?_set_self (List.getElem?_eq_some_iff.mp hz).1] at h
        cases h
      · rw [List.getElem?_set_ne hj] at h
        exact ⟨h, fun q => hj (by omega)⟩
    · rename_i hz
      refine ⟨h, fun ⟨q1, z, q2⟩ => ?_⟩
      subst q2
      have : j = i := by omega
      subst this
      exact hz z h
theorem gLR_st {Γ : gG} {nL i : Nat} {ws : va_W} {ls ls' : Array Slot} {L : gLo} {w : Value} {v : gAV} (h : gLR Γ nL ws ls L) (hv : gVr Γ.2.1 ws w v) (h' : lv_has ls' nL ((i, w) :: (lvL ls nL).filter (fun q => !(q.1 == i) && !(q.1 + 1 == i && q.2.category == 2)))) : gLR Γ nL ws ls' (gSet i v L) := by
  obtain ⟨hs, hw, hl⟩ := h'
  refine ⟨hs, hw, fun j u hu => ?_⟩
  unfold gSet at hu
  by_cases hj : i = j
  · subst hj
    rw [List.getElem?_set] at hu
    simp only [if_true] at hu
    split at hu
    · cases hu
      exact ⟨w, hl _ List.mem_cons_self, hv⟩
    · cases hu
  · rw [List.getElem?_set_ne hj] at hu
    obtain ⟨h1, h2⟩ := gClr_spec hu
    obtain ⟨w', w1, w2⟩ := h.2.2 j u h1
    refine ⟨w', hl (j, w') (List.mem_cons_of_mem _ (List.mem_filter.mpr ⟨lvL_mem h.1 w1, ?_⟩)), w2⟩
    simp only [Bool.and_eq_true, Bool.not_eq_true', beq_eq_false_iff_ne, Bool.and_eq_false_iff]
    refine ⟨fun z => hj z.symm, ?_⟩
    by_cases hc : j + 1 = i
    · right
      exact fun z => h2 ⟨hc, (gVr_cat w2).mp z⟩
    · left; exact hc
theorem gLR_st2 {Γ : gG} {nL i : Nat} {ws : va_W} {ls ls' : Array Slot} {L : gLo} {w : Value} {v : gAV} (h : gLR Γ nL ws ls L) (hv : gVr Γ.2.1 ws w v) (h' : lv_has ls' nL ((i, w) :: (lvL ls nL).filter (fun q => !(q.1 == i) && (!(q.1 == i + 1) && !(q.1 + 1 == i && q.2.category == 2))))) : gLR Γ nL ws ls' (gSet2 i v L) := by
  obtain ⟨hs, hw, hl⟩ := h'
  refine ⟨hs, hw, fun j u hu => ?_⟩
  unfold gSet2 at hu
  by_cases hj1 : i + 1 = j
  · subst hj1
    rw [List.getElem?_set] at hu
    simp only [if_true] at hu
    split at hu <;> cases hu
  rw [List.getElem?_set_ne hj1] at hu
  by_cases hj : i = j
  · subst hj
    rw [List.getElem?_set] at hu
    simp only [if_true] at hu
    split at hu
    · cases hu
      exact ⟨w, hl _ List.mem_cons_self, hv⟩
    · cases hu
  · rw [List.getElem?_set_ne hj] at hu
    obtain ⟨h1, h2⟩ := gClr_spec hu
    obtain ⟨w', w1, w2⟩ := h.2.2 j u h1
    refine ⟨w', hl (j, w') (List.mem_cons_of_mem _ (List.mem_filter.mpr ⟨lvL_mem h.1 w1, ?_⟩)), w2⟩
    simp only [Bool.and_eq_true, Bool.not_eq_true', beq_eq_false_iff_ne, Bool.and_eq_false_iff]
    refine ⟨fun z => hj z.symm, fun z => hj1 z.symm, ?_⟩
    by_cases hc : j + 1 = i
    · right
      exact fun z => h2 ⟨hc, (gVr_cat w2).mp z⟩
    · left; exact hc
