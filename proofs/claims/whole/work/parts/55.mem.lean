/-! THE FLAT MEMORY: V a k i: what the field k of the object a holds (at i). Tables printed by wip/whole/memtab.py:
    kinds of fields: 0 a number, 1 a long, 2 .. 5 its own array (int, byte, long, boolean) at a + off, 9 a reference that changes, 10 one that doesn't (at a + off), 11 one that doesn't (at off), 12 .. 14 its own row of references -/
abbrev Mem : Type := Nat → Nat → Int → Int
abbrev cT : Type := Nat × Nat × Nat
def sO (V : Mem) (a : Nat) (S : oV) : Mem := fun b => if b = a then S else V b
def sF (S : oV) (k : Nat) (f : Int → Int) : oV := fun j => if j = k then f else S j
def sM (V : Mem) (a k : Nat) (f : Int → Int) : Mem := sO V a (sF (V a) k f)
theorem sO_at {V : Mem} {a : Nat} {S : oV} : sO V a S a = S := by simp [sO]
theorem sO_ne {V : Mem} {a b : Nat} {S : oV} (h : b ≠ a) : sO V a S b = V b := by simp [sO, h]
theorem sO_sO {V : Mem} {a : Nat} {S S' : oV} : sO (sO V a S) a S' = sO V a S' := by
  funext b
  by_cases h : b = a <;> simp [sO, h]
theorem sO_id {V : Mem} {a : Nat} : sO V a (V a) = V := by
  funext b
  by_cases h : b = a <;> simp [sO, h]
theorem sF_at {S : oV} {k : Nat} {f : Int → Int} : sF S k f k = f := by simp [sF]
theorem sF_ne {S : oV} {k j : Nat} {f : Int → Int} (h : j ≠ k) : sF S k f j = S j := by simp [sF, h]
theorem sM_at {V : Mem} {a k : Nat} {f : Int → Int} : sM V a k f a k = f := by simp [sM, sO, sF]
theorem sM_ne {V : Mem} {a k b j : Nat} {f : Int → Int} (h : b ≠ a ∨ j ≠ k) : sM V a k f b j = V b j := by
  unfold sM sO sF
  by_cases hb : b = a
  · subst hb
    rw [if_pos rfl, if_neg (h.resolve_left (fun q => q rfl))]
  · rw [if_neg hb]
theorem sM_o {V : Mem} {a k b : Nat} {f : Int → Int} (h : b ≠ a) : sM V a k f b = V b := sO_ne h
theorem sM_k {V : Mem} {a k j : Nat} {f : Int → Int} (h : j ≠ k) : sM V a k f a j = V a j := sM_ne (Or.inr h)
def rf (z : Int) : Option Nat := if z < 0 then none else some z.toNat
theorem rf_nat {g : Nat} : rf (g : Int) = some g := by unfold rf; rw [if_neg (by omega)]; simp
theorem rf_neg {z : Int} (h : z < 0) : rf z = none := by unfold rf; rw [if_pos h]
def tab : Nat → oT
  | 0 => [(9, 0, 0), (9, 0, 0), (2, 1, 8), (2, 2, 7), (2, 3, 7), (2, 4, 7), (2, 5, 7), (2, 6, 6), (0, 0, 0), (2, 7, 70), (2, 8, 70), (2, 9, 70), (2, 10, 70), (2, 11, 70), (2, 12, 29), (0, 0, 0)]
  | 1 => [(10, 1, 0), (2, 14, 240), (2, 15, 210), (2, 16, 210), (2, 17, 6), (2, 18, 30), (2, 19, 30), (2, 20, 7), (2, 21, 7), (0, 0, 0), (0, 0, 0), (0, 0, 0), (0, 0, 0)]
  | 2 => [(4, 1, 8), (4, 2, 8), (1, 0, 0), (1, 0, 0)]
  | 3 => [(10, 1, 0), (2, 14, 840), (0, 0, 0), (0, 0, 0)]
  | 4 => [(0, 0, 0), (0, 0, 0), (0, 0, 0), (0, 0, 0), (0, 0, 0), (12, 1, 7), (0, 0, 0), (2, 2, 10), (2, 3, 10), (2, 4, 10), (0, 0, 0), (2, 5, 6), (2, 6, 48), (0, 0, 0), (2, 7, 8), (2, 8, 8), (2, 9, 8), (2, 10, 30), (2, 11, 30), (2, 12, 30)]
  | 5 => [(13, 1, 16), (14, 2, 3), (0, 0, 0), (0, 0, 0), (0, 0, 0)]
  | 6 => [(2, 1, 7), (2, 2, 7), (0, 0, 0)]
  | 7 => [(0, 0, 0), (2, 1, 7), (2, 2, 7), (2, 3, 7), (2, 4, 256), (0, 0, 0)]
  | 8 => [(0, 0, 0), (0, 0, 0), (0, 0, 0), (0, 0, 0), (0, 0, 0), (2, 1, 6), (0, 0, 0), (0, 0, 0), (0, 0, 0), (0, 0, 0), (2, 2, 3), (2, 3, 3)]
  | 9 => [(11, 1, 0), (0, 0, 0), (0, 0, 0), (0, 0, 0), (0, 0, 0), (0, 0, 0), (0, 0, 0), (0, 0, 0), (9, 0, 0), (0, 0, 0), (0, 0, 0)]
  | 10 => [(2, 1, 7), (2, 2, 7), (2, 3, 7), (0, 0, 0), (2, 4, 12), (2, 5, 12), (2, 6, 12), (0, 0, 0)]
  | 11 => [(3, 1, 1000), (0, 0, 0), (9, 0, 0), (9, 0, 0), (10, 84, 0), (10, 85, 0), (10, 92, 0), (10, 99, 0), (10, 235, 0), (10, 257, 0), (10, 279, 0), (10, 294, 0), (10, 299, 0), (10, 302, 0), (0, 0, 0), (0, 0, 0)]
  | 12 => [(0, 0, 0), (0, 0, 0), (0, 0, 0), (0, 0, 0), (0, 0, 0), (0, 0, 0), (0, 0, 0), (0, 0, 0), (4, 1, 7), (2, 2, 7), (2, 3, 7), (2, 4, 7), (2, 5, 42), (2, 6, 7), (2, 7, 7), (2, 8, 7), (2, 9, 21), (2, 10, 21), (5, 11, 7), (2, 12, 10), (2, 13, 10), (2, 14, 10), (2, 15, 6), (2, 16, 48), (2, 17, 8), (2, 18, 8), (2, 19, 8)]
  | 13 => [(0, 0, 0), (0, 0, 0), (0, 0, 0), (9, 0, 0), (9, 0, 0), (3, 1, 1000), (0, 0, 0), (0, 0, 0), (0, 0, 0), (0, 0, 0), (0, 0, 0), (0, 0, 0), (0, 0, 0), (0, 0, 0), (0, 0, 0), (0, 0, 0), (2, 2, 8), (1, 0, 0), (2, 3, 59), (2, 4, 944), (2, 5, 177), (0, 0, 0), (0, 0, 0), (2, 6, 100), (2, 7, 100), (2, 8, 100), (2, 9, 100), (2, 10, 100), (2, 11, 7), (2, 12, 7), (2, 13, 7), (2, 14, 8), (2, 15, 240), (2, 16, 210), (2, 17, 210), (0, 0, 0), (0, 0, 0), (0, 0, 0), (0, 0, 0), (0, 0, 0), (0, 0, 0), (2, 18, 7), (0, 0, 0), (0, 0, 0), (0, 0, 0), (2, 19, 7), (2, 20, 7), (2, 21, 7), (2, 22, 7), (0, 0, 0), (4, 23, 8), (4, 24, 8)]
  | _ => []
def clL : List (Option Nat) := [some 11, none, some 4, none, none, none, none, none, none, none, none, none, none, none, none, some 8, none, none, none, some 8, none, none, none, some 8, none, none, none, some 8, none, none, none, some 8, none, none, none, some 8, none, none, none, some 8, none, none, none, some 4, none, none, none, none, none, none, none, none, none, none, none, none, some 8, none, none, none, some 8, none, none, none, some 8, none, none, none, some 8, none, none, none, some 8, none, none, none, some 8, none, none, none, some 8, none, none, none, some 9, some 10, none, none, none, none, none, none, some 10, none, none, none, none, none, none, some 5, none, none, some 10, none, none, none, none, none, none, some 10, none, none, none, none, none, none, some 10, none, none, none, none, none, none, some 10, none, none, none, none, none, none, some 10, none, none, none, none, none, none, some 10, none, none, none, none, none, none, some 10, none, none, none, none, none, none, some 10, none, none, none, none, none, none, some 10, none, none, none, none, none, none, some 10, none, none, none, none, none, none, some 10, none, none, none, none, none, none, some 10, none, none, none, none, none, none, some 10, none, none, none, none, none, none, some 10, none, none, none, none, none, none, some 10, none, none, none, none, none, none, some 10, none, none, none, none, none, none, some 10, none, none, none, none, none, none, some 10, none, none, none, none, none, none, some 10, none, none, none, none, none, none, some 1, some 0, none, none, none, none, none, none, none, none, none, none, none, none, none, none, none, none, none, none, none, none, some 1, some 0, none, none, none, none, none, none, none, none, none, none, none, none, none, none, none, none, none, none, none, none, some 3, some 0, none, none, none, none, none, none, none, none, none, none, none, none, none, some 7, none, none, none, none, some 6, none, none, some 2, none, none, some 13, none, none, none, none, none, none, none, none, none, none, none, none, none, none, none, none, none, none, none, none, none, none, none, none, none]
def owL : List Nat := [0, 0, 2, 2, 2, 2, 2, 2, 2, 2, 2, 2, 2, 2, 2, 15, 15, 15, 15, 19, 19, 19, 19, 23, 23, 23, 23, 27, 27, 27, 27, 31, 31, 31, 31, 35, 35, 35, 35, 39, 39, 39, 39, 43, 43, 43, 43, 43, 43, 43, 43, 43, 43, 43, 43, 43, 56, 56, 56, 56, 60, 60, 60, 60, 64, 64, 64, 64, 68, 68, 68, 68, 72, 72, 72, 72, 76, 76, 76, 76, 80, 80, 80, 80, 84, 85, 85, 85, 85, 85, 85, 85, 92, 92, 92, 92, 92, 92, 92, 99, 99, 99, 102, 102, 102, 102, 102, 102, 102, 109, 109, 109, 109, 109, 109, 109, 116, 116, 116, 116, 116, 116, 116, 123, 123, 123, 123, 123, 123, 123, 130, 130, 130, 130, 130, 130, 130, 137, 137, 137, 137, 137, 137, 137, 144, 144, 144, 144, 144, 144, 144, 151, 151, 151, 151, 151, 151, 151, 158, 158, 158, 158, 158, 158, 158, 165, 165, 165, 165, 165, 165, 165, 172, 172, 172, 172, 172, 172, 172, 179, 179, 179, 179, 179, 179, 179, 186, 186, 186, 186, 186, 186, 186, 193, 193, 193, 193, 193, 193, 193, 200, 200, 200, 200, 200, 200, 200, 207, 207, 207, 207, 207, 207, 207, 214, 214, 214, 214, 214, 214, 214, 221, 221, 221, 221, 221, 221, 221, 228, 228, 228, 228, 228, 228, 228, 235, 236, 236, 236, 236, 236, 236, 236, 236, 236, 236, 236, 236, 236, 235, 235, 235, 235, 235, 235, 235, 235, 257, 258, 258, 258, 258, 258, 258, 258, 258, 258, 258, 258, 258, 258, 257, 257, 257, 257, 257, 257, 257, 257, 279, 280, 280, 280, 280, 280, 280, 280, 280, 280, 280, 280, 280, 280, 279, 294, 294, 294, 294, 294, 299, 299, 299, 302, 302, 302, 305, 305, 305, 305, 305, 305, 305, 305, 305, 305, 305, 305, 305, 305, 305, 305, 305, 305, 305, 305, 305, 305, 305, 305, 305, 330]
def mcl (c a : Nat) : Option Nat := if a < 331 then (clL[a]?).getD none else if (a - 331) % 20 = 0 ∧ a + 20 ≤ c then some 12 else none
def ownr (j : Nat) : Nat := if j < 331 then (owL[j]?).getD j else 331 + 20 * ((j - 331) / 20)
def isA (t : Nat) : Bool := t == 2 || t == 3 || t == 4 || t == 5 || t == 12 || t == 13 || t == 14
theorem own_chk : (List.range 331).all (fun a => match (clL[a]?).getD none with
  | some ci => ownr a == a && (tab ci).all (fun t => !isA t.1 || (ownr (a + t.2.1) == a && t.2.1 != 0))
  | none => true) = true := by decide +kernel
theorem own_12 : (tab 12).all (fun t => !isA t.1 || (decide (t.2.1 < 20) && t.2.1 != 0)) = true := by decide +kernel
theorem own_tw : (List.range 14).all (fun ci => (List.range 60).all (fun k => (List.range 60).all (fun j => k == j || match (tab ci)[k]?, (tab ci)[j]? with
  | some t, some u => !isA t.1 || !isA u.1 || t.2.1 != u.2.1
  | _, _ => true))) = true := by decide +kernel
theorem own_len : (List.range 14).all (fun ci => decide ((tab ci).length ≤ 60)) = true := by decide +kernel
theorem mcl_dyn {c a ci : Nat} (ha : ¬ a < 331) (h : mcl c a = some ci) : ci = 12 ∧ (a - 331) % 20 = 0 ∧ a + 20 ≤ c := by
  unfold mcl at h
  rw [if_neg ha] at h
  split at h
  · rename_i q; cases h; exact ⟨rfl, q⟩
  · cases h
theorem ow_self {c a ci : Nat} (h : mcl c a = some ci) : ownr a = a := by
  by_cases ha : a < 331
  · have h1 := List.all_eq_true.mp own_chk a (List.mem_range.mpr ha)
    have h2 : (clL[a]?).getD none = some ci := by unfold mcl at h; rwa [if_pos ha] at h
    rw [h2] at h1
    simp at h1
    exact h1.1
  · obtain ⟨rfl, h1, h2⟩ := mcl_dyn ha h
    unfold ownr
    rw [if_neg ha]
    omega
theorem ow_arr {c a ci k : Nat} {t : Nat × Nat × Nat} (h : mcl c a = some ci) (hk : (tab ci)[k]? = some t) (ht : isA t.1 = true) : ownr (a + t.2.1) = a ∧ t.2.1 ≠ 0 := by
  have hm : t ∈ tab ci := List.mem_of_getElem? hk
  by_cases ha : a < 331
  · have h1 := List.all_eq_true.mp own_chk a (List.mem_range.mpr ha)
    have h2 : (clL[a]?).getD none = some ci := by unfold mcl at h; rwa [if_pos ha] at h
    rw [h2] at h1
    have h3 := (Bool.and_eq_true_iff.mp h1).2
    have h4 := List.all_eq_true.mp h3 t hm
    rw [ht] at h4
    simp at h4
    exact h4
  · obtain ⟨rfl, h1, h2⟩ := mcl_dyn ha h
    have h4 := List.all_eq_true.mp own_12 t hm
    rw [ht] at h4
    simp at h4
    refine ⟨?_, h4.2⟩
    unfold ownr
    rw [if_neg (by omega)]
    omega
theorem tab_big {ci : Nat} (h : ¬ ci < 14) : tab ci = [] := by
  unfold tab
  split <;> first | rfl | (exfalso; omega)
theorem tab_tw {ci k j : Nat} {t u : Nat × Nat × Nat} (hk : (tab ci)[k]? = some t) (hj : (tab ci)[j]? = some u) (ht : isA t.1 = true) (hu : isA u.1 = true) (hkj : k ≠ j) : t.2.1 ≠ u.2.1 := by
  by_cases hci : ci < 14
  · have hl := of_decide_eq_true (List.all_eq_true.mp own_len ci (List.mem_range.mpr hci))
    have k1 := (List.getElem?_eq_some_iff.mp hk).1
    have j1 := (List.getElem?_eq_some_iff.mp hj).1
    have h1 := List.all_eq_true.mp own_tw ci (List.mem_range.mpr hci)
    have h2 := List.all_eq_true.mp h1 k (List.mem_range.mpr (by omega))
    have h3 := List.all_eq_true.mp h2 j (List.mem_range.mpr (by omega))
    rw [hk, hj] at h3
    simp only [ht, hu] at h3
    simp [hkj] at h3
    exact h3
  · rw [tab_big hci] at hk
    simp at hk
theorem k_0 {c : Nat} : mcl c 0 = some 11 := rfl
theorem k_84 {c : Nat} : mcl c 84 = some 9 := rfl
theorem k_85 {c : Nat} : mcl c 85 = some 10 := rfl
theorem k_92 {c : Nat} : mcl c 92 = some 10 := rfl
theorem k_99 {c : Nat} : mcl c 99 = some 5 := rfl
theorem k_235 {c : Nat} : mcl c 235 = some 1 := rfl
theorem k_236 {c : Nat} : mcl c 236 = some 0 := rfl
theorem k_257 {c : Nat} : mcl c 257 = some 1 := rfl
theorem k_258 {c : Nat} : mcl c 258 = some 0 := rfl
theorem k_279 {c : Nat} : mcl c 279 = some 3 := rfl
theorem k_280 {c : Nat} : mcl c 280 = some 0 := rfl
theorem k_294 {c : Nat} : mcl c 294 = some 7 := rfl
theorem k_299 {c : Nat} : mcl c 299 = some 6 := rfl
theorem k_302 {c : Nat} : mcl c 302 = some 2 := rfl
theorem k_305 {c : Nat} : mcl c 305 = some 13 := rfl
def mVal (a : Nat) (t : Nat × Nat × Nat) (f : Int → Int) : gAV := if t.1 = 0 then vI (f 0) else if t.1 = 1 then vL (f 0) else if t.1 = 9 then vR (rf (f 0)) else if t.1 = 11 then vR (some t.2.1) else vR (some (a + t.2.1))
def mArr (o : Option gOb) (a : Nat) (t : Nat × Nat × Nat) (f : Int → Int) : Prop :=
  if t.1 = 12 then ∃ q : Int → Option Nat, o = some (oQ 0 t.2.2 q) ∧ ∀ i : Int, 0 ≤ i → i < t.2.2 → q i = some (a + 13 + 4 * i.toNat)
  else if t.1 = 13 then ∃ q : Int → Option Nat, o = some (oQ 1 t.2.2 q) ∧ ∀ i : Int, 0 ≤ i → i < t.2.2 → q i = some (a + 3 + 7 * i.toNat)
  else if t.1 = 14 then ∃ q : Int → Option Nat, o = some (oQ 1 t.2.2 q) ∧ ∀ i : Int, 0 ≤ i → i < t.2.2 → q i = some (a + 115 + 7 * i.toNat)
  else ∃ g : Int → Int, o = some (oA (t.1 - 2) t.2.2 g) ∧ ∀ i : Int, 0 ≤ i → i < t.2.2 → g i = f i
def mOb (h : gH) (a ci : Nat) (V : oV) : Prop := ∃ fs : List gAV, h.2 a = some (oO ci fs) ∧ fs.length = (tab ci).length ∧ ∀ (k : Nat) (t : Nat × Nat × Nat), (tab ci)[k]? = some t → fs[k]? = some (mVal a t (V k)) ∧ (isA t.1 = true → mArr (h.2 (a + t.2.1)) a t (V k))
def mHR (h : gH) (V : Mem) : Prop := ∀ a ci : Nat, mcl h.1.1 a = some ci → mOb h a ci (V a)
/-- the law's own long[1], at the number 330 -/
def m330 (h : gH) (V : Mem) : Prop := ∃ g : Int → Int, h.2 330 = some (oA 2 1 g) ∧ g 0 = V 330 0 0
def mH (c : cT) (V : Mem) (h : gH) : Prop := h.1 = c ∧ mHR h V ∧ m330 h V
theorem mcl_330 {c : Nat} : mcl c 330 = none := rfl
theorem ow_330 : ownr 330 = 330 := by decide +kernel
theorem mH_le {c : cT} {V V' : Mem} {h h' : gH} (H : mH c V h) (H' : mH c V' h') : gLe h h' := gLe.of (H'.1.trans H.1.symm)
section MH
variable {c : cT} {V : Mem} {h : gH} {a ci k : Nat}
theorem mH_ob (H : mH c V h) (hc : mcl c.1 a = some ci) : mOb h a ci (V a) := H.2.1 a ci (by rw [H.1]; exact hc)
theorem mH_fld (H : mH c V h) (hc : mcl c.1 a = some ci) {t : Nat × Nat × Nat} (hk : (tab ci)[k]? = some t) : gFld ci k h (some a) = some (mVal a t (V a k)) := by
  obtain ⟨fs, h1, h2, h3⟩ := mH_ob H hc
  simp only [gFld, h1, if_true, (h3 k t hk).1]
theorem isA_ty {ty : Nat} (hty : ty < 4) : isA (ty + 2) = true := by
  rcases (by omega : ty = 0 ∨ ty = 1 ∨ ty = 2 ∨ ty = 3) with rfl | rfl | rfl | rfl <;> rfl
theorem mH_arr (H : mH c V h) (hc : mcl c.1 a = some ci) {ty off N : Nat} (hk : (tab ci)[k]? = some (ty + 2, off, N)) (hty : ty < 4) : ∃ g : Int → Int, h.2 (a + off) = some (oA ty N g) ∧ ∀ i : Int, 0 ≤ i → i < N → g i = V a k i := by
  obtain ⟨fs, h1, h2, h3⟩ := mH_ob H hc
  have h4 := (h3 k _ hk).2 (isA_ty hty)
  unfold mArr at h4
  rw [if_neg (by show ¬ ty + 2 = 12; omega), if_neg (by show ¬ ty + 2 = 13; omega), if_neg (by show ¬ ty + 2 = 14; omega)] at h4
  exact h4
theorem mVal_arr {f : Int → Int} {ty off N : Nat} (hty : ty < 4) : mVal a (ty + 2, off, N) f = vR (some (a + off)) := by
  unfold mVal
  rw [if_neg (by show ¬ ty + 2 = 0; omega), if_neg (by show ¬ ty + 2 = 1; omega), if_neg (by show ¬ ty + 2 = 9; omega), if_neg (by show ¬ ty + 2 = 11; omega)]
/-- a field is written -/
theorem mH_putF (H : mH c V h) (hc : mcl c.1 a = some ci) {t : Nat × Nat × Nat} (hk : (tab ci)[k]? = some t) (ht : isA t.1 = false) (f : Int → Int) {v : gAV} (hv : v = mVal a t f) : ∃ h' : gH, gPut ci k v h (some a) = some h' ∧ mH c (sM V a k f) h' := by
  subst hv
  obtain ⟨fs, h1, h2, h3⟩ := mH_ob H hc
  have hlt : k < fs.length := by rw [h2]; exact (List.getElem?_eq_some_iff.mp hk).1
  have h330 : (330 : Nat) ≠ a := fun q => by rw [← q, mcl_330] at hc; cases hc
  refine ⟨(h.1, gUp h.2 a (some (oO ci (fs.set k (mVal a t f))))), ?_, H.1, fun b cj hb => ?_, by
    obtain ⟨g, g1, g2⟩ := H.2.2
    exact ⟨g, by simp only [gUp]; rw [if_neg h330]; exact g1, by rw [sM_o h330]; exact g2⟩⟩
  · simp only [gPut, h1]
    rw [if_pos ⟨trivial, hlt⟩]
  · have hb' : mcl c.1 b = some cj := by rw [← H.1]; exact hb
    by_cases hba : b = a
    · subst hba
      rw [hc] at hb'
      cases hb'
      refine ⟨fs.set k (mVal b t f), by simp [gUp], by simp [h2], fun j u hj => ?_⟩
      have h4 := h3 j u hj
      by_cases hjk : k = j
      · subst hjk
        rw [hk] at hj
        cases hj
        refine ⟨?_, fun q => by rw [ht] at q; cases q⟩
        rw [List.getElem?_set_self hlt, sM_at]
      · rw [List.getElem?_set_ne hjk, sM_k (Ne.symm hjk)]
        refine ⟨h4.1, fun q => ?_⟩
        have := (ow_arr hc hj q).2
        simp only [gUp]
        rw [if_neg (by omega)]
        exact h4.2 q
    · obtain ⟨gs, g1, g2, g3⟩ := mH_ob H hb'
      refine ⟨gs, by simp only [gUp]; rw [if_neg hba]; exact g1, g2, fun j u hj => ?_⟩
      rw [sM_o hba]
      refine ⟨(g3 j u hj).1, fun q => ?_⟩
      have e1 := (ow_arr hb' hj q).1
      have e2 := ow_self hc
      simp only [gUp]
      rw [if_neg (fun e => hba (by rw [e, e2] at e1; exact e1.symm))]
      exact (g3 j u hj).2 q
/-- an array is written -/
theorem mH_putA (H : mH c V h) (hc : mcl c.1 a = some ci) {ty off N : Nat} (hk : (tab ci)[k]? = some (ty + 2, off, N)) (hty : ty < 4) (f g : Int → Int) (hg : ∀ i : Int, 0 ≤ i → i < N → g i = f i) : mH c (sM V a k f) (h.1, gUp h.2 (a + off) (some (oA ty N g))) := by
  obtain ⟨e0, e1⟩ := ow_arr hc hk (isA_ty hty)
  have e0 : ownr (a + off) = a := e0
  have e1 : off ≠ 0 := e1
  have h330 : (330 : Nat) ≠ a := fun q => by rw [← q, mcl_330] at hc; cases hc
  refine ⟨H.1, fun b cj hb => ?_, by
    obtain ⟨z, g1, g2⟩ := H.2.2
    exact ⟨z, by simp only [gUp]; rw [if_neg (fun q => h330 (by rw [← q, ow_330] at e0; exact e0))]; exact g1, by rw [sM_o h330]; exact g2⟩⟩
  have hb' : mcl c.1 b = some cj := by rw [← H.1]; exact hb
  obtain ⟨gs, g1, g2, g3⟩ := mH_ob H hb'
  have hbo : b ≠ a + off := fun q => by
    have := ow_self hb'
    rw [q, e0] at this
    omega
  refine ⟨gs, by simp only [gUp]; rw [if_neg hbo]; exact g1, g2, fun j u hj => ?_⟩
  obtain ⟨g4, g5⟩ := g3 j u hj
  by_cases hba : b = a
  · subst hba
    rw [hc] at hb'
    cases hb'
    by_cases hjk : j = k
    · subst hjk
      rw [hk] at hj
      cases hj
      rw [sM_at]
      refine ⟨?_, fun _ => ?_⟩
      · rw [mVal_arr hty]
        rw [mVal_arr hty] at g4
        exact g4
      · unfold mArr
        rw [if_neg (by show ¬ ty + 2 = 12; omega), if_neg (by show ¬ ty + 2 = 13; omega), if_neg (by show ¬ ty + 2 = 14; omega)]
        exact ⟨g, by simp [gUp], hg⟩
    · rw [sM_k hjk]
      refine ⟨g4, fun q => ?_⟩
      have := tab_tw hj hk q (isA_ty hty) hjk
      have this : u.2.1 ≠ off := this
      simp only [gUp]
      rw [if_neg (by omega)]
      exact g5 q
  · rw [sM_o hba]
    refine ⟨g4, fun q => ?_⟩
    have e2 := (ow_arr hb' hj q).1
    simp only [gUp]
    rw [if_neg (fun e => hba (by rw [e, e0] at e2; exact e2.symm))]
    exact g5 q
end MH
