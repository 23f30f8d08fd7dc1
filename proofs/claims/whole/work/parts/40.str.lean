/-! STRINGS: what length and charAt answer of the constants -/
theorem js_f38 : Cond.fieldLink RJ0 38 "java/lang/String" "COMPACT_STRINGS" "Z" ∈ gTw := (gTw_3 187 (by decide +kernel) (by decide +kernel))
theorem js_f9 : Cond.fieldLink RJ0 9 "java/lang/String" "value" "[B" ∈ gTw := (gTw_10 99 (by decide +kernel) (by decide +kernel))
theorem js_f15 : Cond.fieldLink RJ0 15 "java/lang/String" "coder" "B" ∈ gTw := (gTw_10 100 (by decide +kernel) (by decide +kernel))
theorem js_f1053 : Cond.fieldLink RJ0 1053 "jdk/internal/util/Preconditions" "SIOOBE_FORMATTER" "Ljava/util/function/BiFunction;" ∈ gTw := (gTw_3 203 (by decide +kernel) (by decide +kernel))
theorem js_m335 : Cond.methodLink RJ0 335 yJ0_coder_7d493 ∈ gTw := (gTw_3 183 (by decide +kernel) (by decide +kernel))
theorem js_m492 : Cond.methodLink RJ0 492 yJ0_isLatin1_aae02 ∈ gTw := (gTw_3 193 (by decide +kernel) (by decide +kernel))
theorem js_m495 : Cond.methodLink RJ0 495 yJ1_charAt_3b067 ∈ gTw := (gTw_3 197 (by decide +kernel) (by decide +kernel))
theorem js_m9 : Cond.methodLink RJ1 9 yJ0_checkIndex_df160 ∈ gTw := (gTw_3 200 (by decide +kernel) (by decide +kernel))
theorem js_m1059 : Cond.methodLink RJ0 1059 yJ3_checkIndex_8e157 ∈ gTw := (gTw_3 205 (by decide +kernel) (by decide +kernel))
theorem js_i_coder : Cond.instanceMethod yJ0_coder_7d493 ∈ gTw := (gTw_3 184 (by decide +kernel) (by decide +kernel))
theorem js_s_coder : Cond.selects "java/lang/String" yJ0_coder_7d493 yJ0_coder_7d493 ∈ gTw := (gTw_3 185 (by decide +kernel) (by decide +kernel))
theorem js_i_isLatin1 : Cond.instanceMethod yJ0_isLatin1_aae02 ∈ gTw := (gTw_3 194 (by decide +kernel) (by decide +kernel))
theorem js_s_isLatin1 : Cond.selects "java/lang/String" yJ0_isLatin1_aae02 yJ0_isLatin1_aae02 ∈ gTw := (gTw_3 195 (by decide +kernel) (by decide +kernel))
theorem js_t_chk : Cond.static yJ0_checkIndex_df160 ∈ gTw := (gTw_3 201 (by decide +kernel) (by decide +kernel))
theorem js_t_lch : Cond.static yJ1_charAt_3b067 ∈ gTw := (gTw_3 198 (by decide +kernel) (by decide +kernel))
theorem js_t_pch : Cond.static yJ3_checkIndex_8e157 ∈ gTw := (gTw_3 206 (by decide +kernel) (by decide +kernel))
theorem js_n_S : Cond.initialized "java/lang/String" ∈ gTw := (gTw_1 16 (by decide +kernel) (by decide +kernel))
theorem js_n_L : Cond.initialized "java/lang/StringLatin1" ∈ gTw := (gTw_1 17 (by decide +kernel) (by decide +kernel))
theorem js_n_P : Cond.initialized "jdk/internal/util/Preconditions" ∈ gTw := (gTw_1 18 (by decide +kernel) (by decide +kernel))
theorem js_c_cod : Cond.code yJ0_coder_7d493 cJ0_coder_7d493 1 (some (FieldType.byte)) ∈ gTw := (gTw_3 186 (by decide +kernel) (by decide +kernel))
theorem js_c_isl : Cond.code yJ0_isLatin1_aae02 cJ0_isLatin1_aae02 1 (some (FieldType.boolean)) ∈ gTw := (gTw_3 196 (by decide +kernel) (by decide +kernel))
theorem js_c_chk : Cond.code yJ0_checkIndex_df160 cJ0_checkIndex_df160 2 none ∈ gTw := (gTw_3 202 (by decide +kernel) (by decide +kernel))
theorem js_c_lch : Cond.code yJ1_charAt_3b067 cJ1_charAt_3b067 2 (some (FieldType.char)) ∈ gTw := (gTw_3 199 (by decide +kernel) (by decide +kernel))
theorem js_c_pch : Cond.code yJ3_checkIndex_8e157 cJ3_checkIndex_8e157 3 (some (FieldType.int)) ∈ gTw := (gTw_3 207 (by decide +kernel) (by decide +kernel))
-- contracts of String's own methods on constants
def gTl : List Nat := gTxt.map List.length
def jPc (adK adV : Nat → Nat) (A : Nat → Prop) (av : List Value) : Array Value → State → Prop := va_Pc av (fun U => gEv gNw gSr adK adV A U U.heap)
theorem jPc_blind {adK adV : Nat → Nat} {A : Nat → Prop} {av : List Value} : FrameBlind (jPc adK adV A av) := by
  intro a U g mk q
  obtain ⟨q0, q2, q3, q4, q5, q6, q7, q8⟩ := q
  exact ⟨q0, fun w hw => gNw_same (s := U) hw rfl (q2 w hw), fun w hw => vk_R.same (u := U) rfl (q3 w hw), gVS.moved (u := U) (U := U.calling g mk a) (Vm.Alike.refl U.vm) q4, fun i => va_AO.moved (u := U) (U := U.calling g mk a) (Vm.Alike.refl U.vm) (q5 i), va_Z.moved (u := U) (U := U.calling g mk a) (Vm.Alike.refl U.vm) q6, q7, va_Z.moved (u := U) (U := U.calling g mk a) (Vm.Alike.refl U.vm) q8⟩
theorem jPre {adK adV : Nat → Nat} {A : Nat → Prop} {s : State} {av : List Value} (hE : gEv gNw gSr adK adV A s s.heap) : ∀ U : State, U.heap = s.heap → s.WarmedH U.vm → jPc adK adV A av av.toArray U := fun U hU hW => ⟨rfl, gEv_to hE va_S.rf (fun _ h => h) hU hW⟩
def jR (d : Nat) : Room := { frames := d, cells := 0, slots := 0, locals := 64 * d }
section JS
variable (l : Launch) (adK adV : Nat → Nat) (A : Nat → Prop) (i : Nat) (hi : i < gTxt.length)
set_option maxRecDepth 100000 in
theorem m_coder (hi : i < gTxt.length) : Met l yJ0_coder_7d493 (Cond.code yJ0_coder_7d493 cJ0_coder_7d493 1 (some (FieldType.byte)) :: gTw) (jR 0) (jPc adK adV A [.ref (adK i)]) (QcRead 0) 0 0 (fun _ => False) := by
  refine Met.ofW (cc := cJ0_coder_7d493) (maxL := 1) (ret := some .byte) (by decide) rfl ?_
  intro p e s m args below meth c s₁ B hml hv
  obtain ⟨rfl, hE⟩ := hv
  have hx := B.exec
  have hb := B.bytes
  have hr := B.returns
  have hts0 := atoms_spec (ws := Cond.code yJ0_coder_7d493 cJ0_coder_7d493 1 (some (FieldType.byte)) :: gTw) B.pre
  have hts : ∀ w ∈ gTw, w.before [Value.ref (adK i)].toArray s = true := fun w hw => hts0 w (List.mem_cons_of_mem _ hw)
  have hown : s.vm.findClass RJ0 = some m.cls := findClass_of_methodNamed B.named
  have hlocks := B.notSynchronized
  have hS : va_S A s.heap s.heap [] := va_S.rf
  have hl := lv_entry ([.ref (adK i)]) (n := 1) (Nat.le_of_ble_eq_true rfl)
  rw [lg_entry_eq]
  generalize (lg_sl ([Value.ref (adK i)]) ++ List.replicate (1 - (lg_sl ([Value.ref (adK i)])).length) Slot.unset).toArray = ls at hl ⊢
  have hl : lv_has ls 1 [(0, .ref (adK i))] := hl
  obtain ⟨-, -, hV, -, hZ, -⟩ := hE
  obtain ⟨v1, v2, v3, v4⟩ := hV i hi
  refine va_gets hx hb hZ hS hown (hts _ js_f38) (fun _ h => h) (by decide +kernel : decode cJ0_coder_7d493 0 = .ok (.getstatic 38, 3)) ?_
  refine lv_if_eq (tgt := 13) hx hb (by decide +kernel : decode cJ0_coder_7d493 3 = .ok (.ifCond .eq 10, 3)) (by decide) (fun h => absurd h (by decide)) (fun _ => ?_)
  refine lv_aload_n hx hb (by decide +kernel : decode cJ0_coder_7d493 6 = .ok (.aload_n 0, 1)) rfl (lv_at hl 0 rfl) ?_
  refine vk_getf hx hb v2 hS hown (hts _ js_f15) (fun _ h => h) (by decide +kernel : decode cJ0_coder_7d493 7 = .ok (.getfield 15, 3)) ?_
  refine lv_goto (tgt := 14) hx hb (by decide +kernel : decode cJ0_coder_7d493 10 = .ok (.goto 4, 3)) (by decide) ?_
  exact W.zret (ty := .byte) hx hb hr rfl (fun t ht hW => ⟨rfl, ht⟩) (fun q hq => by cases hq) (by decide +kernel : decode cJ0_coder_7d493 14 = .ok (.ireturn, 1))
set_option maxRecDepth 100000 in
theorem m_latin (hi : i < gTxt.length) : Met l yJ0_isLatin1_aae02 (Cond.code yJ0_isLatin1_aae02 cJ0_isLatin1_aae02 1 (some (FieldType.boolean)) :: gTw) (jR 0) (jPc adK adV A [.ref (adK i)]) (QcRead 1) 0 0 (fun _ => False) := by
  refine Met.ofW (cc := cJ0_isLatin1_aae02) (maxL := 1) (ret := some .boolean) (by decide) rfl ?_
  intro p e s m args below meth c s₁ B hml hv
  obtain ⟨rfl, hE⟩ := hv
  have hx := B.exec
  have hb := B.bytes
  have hr := B.returns
  have hts0 := atoms_spec (ws := Cond.code yJ0_isLatin1_aae02 cJ0_isLatin1_aae02 1 (some (FieldType.boolean)) :: gTw) B.pre
  have hts : ∀ w ∈ gTw, w.before [Value.ref (adK i)].toArray s = true := fun w hw => hts0 w (List.mem_cons_of_mem _ hw)
  have hown : s.vm.findClass RJ0 = some m.cls := findClass_of_methodNamed B.named
  have hlocks := B.notSynchronized
  have hS : va_S A s.heap s.heap [] := va_S.rf
  have hl := lv_entry ([.ref (adK i)]) (n := 1) (Nat.le_of_ble_eq_true rfl)
  rw [lg_entry_eq]
  generalize (lg_sl ([Value.ref (adK i)]) ++ List.replicate (1 - (lg_sl ([Value.ref (adK i)])).length) Slot.unset).toArray = ls at hl ⊢
  have hl : lv_has ls 1 [(0, .ref (adK i))] := hl
  obtain ⟨-, -, hV, -, hZ, -⟩ := hE
  obtain ⟨v1, v2, v3, v4⟩ := hV i hi
  refine va_gets hx hb hZ hS hown (hts _ js_f38) (fun _ h => h) (by decide +kernel : decode cJ0_isLatin1_aae02 0 = .ok (.getstatic 38, 3)) ?_
  refine lv_if_eq (tgt := 17) hx hb (by decide +kernel : decode cJ0_isLatin1_aae02 3 = .ok (.ifCond .eq 14, 3)) (by decide) (fun h => absurd h (by decide)) (fun _ => ?_)
  refine lv_aload_n hx hb (by decide +kernel : decode cJ0_isLatin1_aae02 6 = .ok (.aload_n 0, 1)) rfl (lv_at hl 0 rfl) ?_
  refine vk_getf hx hb v2 hS hown (hts _ js_f15) (fun _ h => h) (by decide +kernel : decode cJ0_isLatin1_aae02 7 = .ok (.getfield 15, 3)) ?_
  refine lv_if_ne (tgt := 17) hx hb (by decide +kernel : decode cJ0_isLatin1_aae02 10 = .ok (.ifCond .ne 7, 3)) (by decide) (fun h => absurd rfl h) (fun _ => ?_)
  refine lv_iconst (v := 1) hx hb (by decide +kernel : decode cJ0_isLatin1_aae02 13 = .ok (.iconst 1, 1)) (by decide) ?_
  refine lv_goto (tgt := 18) hx hb (by decide +kernel : decode cJ0_isLatin1_aae02 14 = .ok (.goto 4, 3)) (by decide) ?_
  exact W.zret (ty := .boolean) hx hb hr rfl (fun t ht hW => ⟨rfl, ht⟩) (fun q hq => by cases hq) (by decide +kernel : decode cJ0_isLatin1_aae02 18 = .ok (.ireturn, 1))
set_option maxRecDepth 100000 in
/-- Preconditions.checkIndex: the index, where it is in range -/
theorem m_pchR (x n : Int32) (q : Nat) (h0 : ¬ x < 0) (h1 : x < n) : Met l yJ3_checkIndex_8e157 (Cond.code yJ3_checkIndex_8e157 cJ3_checkIndex_8e157 3 (some (FieldType.int)) :: gTw) (jR 0) (jPc adK adV A [.int x, .int n, .ref q]) (QcRead x) 0 0 (fun _ => False) := by
  refine Met.ofW (cc := cJ3_checkIndex_8e157) (maxL := 3) (ret := some .int) (by decide) rfl ?_
  intro p e s m args below meth c s₁ B hml hv
  obtain ⟨rfl, hE⟩ := hv
  have hx := B.exec
  have hb := B.bytes
  have hr := B.returns
  have hlocks := B.notSynchronized
  have hl := lv_entry ([.int x, .int n, .ref q]) (n := 3) (Nat.le_of_ble_eq_true rfl)
  rw [lg_entry_eq]
  generalize (lg_sl ([Value.int x, .int n, .ref q]) ++ List.replicate (3 - (lg_sl ([Value.int x, .int n, .ref q])).length) Slot.unset).toArray = ls at hl ⊢
  have hl : lv_has ls 3 [(0, .int x), (1, .int n), (2, .ref q)] := hl
  refine lv_iload_n hx hb (by decide +kernel : decode cJ3_checkIndex_8e157 0 = .ok (.iload_n 0, 1)) rfl (lv_at hl 0 rfl) ?_
  refine lv_if_lt (tgt := 9) hx hb (by decide +kernel : decode cJ3_checkIndex_8e157 1 = .ok (.ifCond .lt 8, 3)) (by decide) (fun h => absurd h h0) (fun _ => ?_)
  refine lv_iload_n hx hb (by decide +kernel : decode cJ3_checkIndex_8e157 4 = .ok (.iload_n 0, 1)) rfl (lv_at hl 0 rfl) ?_
  refine lv_iload_n hx hb (by decide +kernel : decode cJ3_checkIndex_8e157 5 = .ok (.iload_n 1, 1)) rfl (lv_at hl 1 rfl) ?_
  refine lv_icmp_lt (tgt := 16) hx hb (by decide +kernel : decode cJ3_checkIndex_8e157 6 = .ok (.if_icmp .lt 10, 3)) (by decide) (fun _ => ?_) (fun h => absurd h1 h)
  refine lv_iload_n hx hb (by decide +kernel : decode cJ3_checkIndex_8e157 16 = .ok (.iload_n 0, 1)) rfl (lv_at hl 0 rfl) ?_
  exact W.iret hx hb hr (fun t ht hW => ⟨rfl, ht⟩) (fun q hq => by cases hq) (by decide +kernel : decode cJ3_checkIndex_8e157 17 = .ok (.ireturn, 1))
set_option maxRecDepth 100000 in
/-- Preconditions.checkIndex: the index, where it is in range -/
theorem m_pchN (x n : Int32) (h0 : ¬ x < 0) (h1 : x < n) : Met l yJ3_checkIndex_8e157 (Cond.code yJ3_checkIndex_8e157 cJ3_checkIndex_8e157 3 (some (FieldType.int)) :: gTw) (jR 0) (jPc adK adV A [.int x, .int n, .null]) (QcRead x) 0 0 (fun _ => False) := by
  refine Met.ofW (cc := cJ3_checkIndex_8e157) (maxL := 3) (ret := some .int) (by decide) rfl ?_
  intro p e s m args below meth c s₁ B hml hv
  obtain ⟨rfl, hE⟩ := hv
  have hx := B.exec
  have hb := B.bytes
  have hr := B.returns
  have hlocks := B.notSynchronized
  have hl := lv_entry ([.int x, .int n, .null]) (n := 3) (Nat.le_of_ble_eq_true rfl)
  rw [lg_entry_eq]
  generalize (lg_sl ([Value.int x, .int n, .null]) ++ List.replicate (3 - (lg_sl ([Value.int x, .int n, .null])).length) Slot.unset).toArray = ls at hl ⊢
  have hl : lv_has ls 3 [(0, .int x), (1, .int n), (2, .null)] := hl
  refine lv_iload_n hx hb (by decide +kernel : decode cJ3_checkIndex_8e157 0 = .ok (.iload_n 0, 1)) rfl (lv_at hl 0 rfl) ?_
  refine lv_if_lt (tgt := 9) hx hb (by decide +kernel : decode cJ3_checkIndex_8e157 1 = .ok (.ifCond .lt 8, 3)) (by decide) (fun h => absurd h h0) (fun _ => ?_)
  refine lv_iload_n hx hb (by decide +kernel : decode cJ3_checkIndex_8e157 4 = .ok (.iload_n 0, 1)) rfl (lv_at hl 0 rfl) ?_
  refine lv_iload_n hx hb (by decide +kernel : decode cJ3_checkIndex_8e157 5 = .ok (.iload_n 1, 1)) rfl (lv_at hl 1 rfl) ?_
  refine lv_icmp_lt (tgt := 16) hx hb (by decide +kernel : decode cJ3_checkIndex_8e157 6 = .ok (.if_icmp .lt 10, 3)) (by decide) (fun _ => ?_) (fun h => absurd h1 h)
  refine lv_iload_n hx hb (by decide +kernel : decode cJ3_checkIndex_8e157 16 = .ok (.iload_n 0, 1)) rfl (lv_at hl 0 rfl) ?_
  exact W.iret hx hb hr (fun t ht hW => ⟨rfl, ht⟩) (fun q hq => by cases hq) (by decide +kernel : decode cJ3_checkIndex_8e157 17 = .ok (.ireturn, 1))
theorem m_pch (x n : Int32) (q : Option Nat) (h0 : ¬ x < 0) (h1 : x < n) : Met l yJ3_checkIndex_8e157 (Cond.code yJ3_checkIndex_8e157 cJ3_checkIndex_8e157 3 (some (FieldType.int)) :: gTw) (jR 0) (jPc adK adV A [.int x, .int n, va_rf q]) (QcRead x) 0 0 (fun _ => False) := by
  cases q with
  | none => exact m_pchN l adK adV A x n h0 h1
  | some q => exact m_pchR l adK adV A x n q h0 h1
theorem jGood {y : MethodName} {c : ByteArray} {n : Nat} {r : Option FieldType} (h : Cond.code y c n r ∈ gTw) : GoodIn gTw (Cond.code y c n r :: gTw) := by
  intro w hw
  rcases List.mem_cons.mp hw with rfl | hw
  · exact gTw_good _ h
  · exact gTw_good _ hw
theorem jGoodS {own : String} {ix : Nat} {y : MethodName} {c : ByteArray} {n : Nat} {r : Option FieldType} (h1 : Cond.methodLink own ix y ∈ gTw) (h2 : Cond.static y ∈ gTw) (h3 : Cond.initialized y.cls ∈ gTw) (h : Cond.code y c n r ∈ gTw) : GoodIn gTw (va_wsS own ix y (Cond.code y c n r :: gTw)) := by
  intro w hw
  simp only [va_wsS, List.cons_append, List.nil_append, List.mem_cons] at hw
  rcases hw with rfl | rfl | rfl | hw
  · exact gTw_good _ h1
  · exact gTw_good _ h2
  · exact gTw_good _ h3
  · exact jGood h w (List.mem_cons.mpr hw)
theorem jGoodV {own : String} {ix : Nat} {y : MethodName} {c : ByteArray} {n : Nat} {r : Option FieldType} (h1 : Cond.methodLink own ix y ∈ gTw) (h2 : Cond.instanceMethod y ∈ gTw) (h4 : Cond.selects y.cls y y ∈ gTw) (h3 : Cond.initialized y.cls ∈ gTw) (h : Cond.code y c n r ∈ gTw) : GoodIn gTw (wsV own ix y.cls y (Cond.code y c n r :: gTw)) := by
  intro w hw
  simp only [wsV, List.cons_append, List.nil_append, List.mem_cons] at hw
  rcases hw with rfl | rfl | rfl | rfl | hw
  · exact gTw_good _ h1
  · exact gTw_good _ h2
  · exact gTw_good _ h4
  · exact gTw_good _ h3
  · exact jGood h w (List.mem_cons.mpr hw)
set_option maxRecDepth 100000 in
theorem m_chk (x n : Int32) (h0 : ¬ x < 0) (h1 : x < n) : Met l yJ0_checkIndex_df160 (Cond.code yJ0_checkIndex_df160 cJ0_checkIndex_df160 2 none :: gTw) (jR 1) (jPc adK adV A [.int x, .int n]) (va_Sv (fun _ => True)) 0 0 (fun _ => False) := by
  refine Met.ofW (cc := cJ0_checkIndex_df160) (maxL := 2) (ret := none) (by decide) rfl ?_
  intro p e s m args below meth c s₁ B hml hv
  obtain ⟨rfl, hE⟩ := hv
  have hx := B.exec
  have hb := B.bytes
  have hr := B.returns
  have hts0 := atoms_spec (ws := Cond.code yJ0_checkIndex_df160 cJ0_checkIndex_df160 2 none :: gTw) B.pre
  have hts : ∀ w ∈ gTw, w.before [Value.int x, .int n].toArray s = true := fun w hw => hts0 w (List.mem_cons_of_mem _ hw)
  have hown : s.vm.findClass RJ0 = some m.cls := findClass_of_methodNamed B.named
  have hlocks := B.notSynchronized
  have hS : va_S A s.heap s.heap [] := va_S.rf
  have hl := lv_entry ([.int x, .int n]) (n := 2) (Nat.le_of_ble_eq_true rfl)
  rw [lg_entry_eq]
  generalize (lg_sl ([Value.int x, .int n]) ++ List.replicate (2 - (lg_sl ([Value.int x, .int n])).length) Slot.unset).toArray = ls at hl ⊢
  have hl : lv_has ls 2 [(0, .int x), (1, .int n)] := hl
  obtain ⟨-, -, hV, -, hZ, q, hZ2⟩ := id hE
  refine lv_iload_n hx hb (by decide +kernel : decode cJ0_checkIndex_df160 0 = .ok (.iload_n 0, 1)) rfl (lv_at hl 0 rfl) ?_
  refine lv_iload_n hx hb (by decide +kernel : decode cJ0_checkIndex_df160 1 = .ok (.iload_n 1, 1)) rfl (lv_at hl 1 rfl) ?_
  refine va_gets hx hb hZ2 hS hown (hts _ js_f1053) (fun _ h => h) (by decide +kernel : decode cJ0_checkIndex_df160 2 = .ok (.getstatic 1053, 3)) ?_
  refine W.callR (a := [Value.int x, .int n, va_rf q].toArray) (r := x) (W.runS (As := [.int x, .int n, va_rf q]) (rest := []) ⟨hx, hb, hml, hown, hts⟩ (m_pch l adK adV A x n q h0 h1) (va_cwS 3 hts (jGoodS js_m1059 js_t_pch js_n_P js_c_pch) rfl rfl rfl (by decide +kernel) ⟨Nat.le_of_ble_eq_true rfl, Nat.le_of_ble_eq_true rfl⟩) ⟨jPc_blind, jPre hE⟩ rfl rfl hl.1 rfl (lv_room (Nat.le_of_ble_eq_true rfl)) (by decide +kernel : decode cJ0_checkIndex_df160 5 = .ok (.invokestatic 1059, 3)) ⟨Nat.le_refl _, Nat.le_refl _⟩) ?_
  refine lv_pop hx hb (by decide +kernel : decode cJ0_checkIndex_df160 8 = .ok (.pop, 1)) rfl ?_
  exact W.vret hx hb hr (fun t ht hW => ⟨rfl, trivial, ht⟩) (fun q hq => by cases hq) (by decide +kernel : decode cJ0_checkIndex_df160 9 = .ok (.return_, 1))
/-- the sign of a text at a place -/
def gCh (i j : Nat) : Int32 := ((gTxt.map (fun t => t.map Int32.ofInt)).getD i []).getD j 0
theorem gCh_ok : (List.range gTxt.length).all (fun i => (List.range ((gTxt.map List.length).getD i 0)).all (fun j => decide (((gCh i j &&& 255).toUInt32 % 65536).toInt32 = gCh i j ∧ narrow .char (.int (gCh i j)) = .int (gCh i j)))) = true := by decide +kernel
theorem gCh_spec {i j : Nat} (hi : i < gTxt.length) (hj : j < (gTxt.map List.length).getD i 0) : ((gCh i j &&& 255).toUInt32 % 65536).toInt32 = gCh i j ∧ narrow .char (.int (gCh i j)) = .int (gCh i j) := by
  have h1 := List.all_eq_true.mp gCh_ok i (List.mem_range.mpr hi)
  have h2 := List.all_eq_true.mp h1 j (List.mem_range.mpr hj)
  exact of_decide_eq_true h2
theorem gTl_small : (List.range gTxt.length).all (fun i => decide ((gTxt.map List.length).getD i 0 < 100)) = true := by decide +kernel
theorem gTl_lt {i : Nat} (hi : i < gTxt.length) : (gTxt.map List.length).getD i 0 < 100 := of_decide_eq_true (List.all_eq_true.mp gTl_small i (List.mem_range.mpr hi))
set_option maxRecDepth 100000 in
theorem m_lch (j : Nat) (hi : i < gTxt.length) (hj : j < (gTxt.map List.length).getD i 0) : Met l yJ1_charAt_3b067 (Cond.code yJ1_charAt_3b067 cJ1_charAt_3b067 2 (some (FieldType.char)) :: gTw) (jR 2) (jPc adK adV A [.ref (adV i), .int (nI j)]) (QcRead (gCh i j)) 0 0 (fun _ => False) := by
  refine Met.ofW (cc := cJ1_charAt_3b067) (maxL := 2) (ret := some .char) (by decide) rfl ?_
  intro p e s m args below meth c s₁ B hml hv
  obtain ⟨rfl, hE⟩ := hv
  have hx := B.exec
  have hb := B.bytes
  have hr := B.returns
  have hts0 := atoms_spec (ws := Cond.code yJ1_charAt_3b067 cJ1_charAt_3b067 2 (some (FieldType.char)) :: gTw) B.pre
  have hts : ∀ w ∈ gTw, w.before [Value.ref (adV i), .int (nI j)].toArray s = true := fun w hw => hts0 w (List.mem_cons_of_mem _ hw)
  have hown : s.vm.findClass RJ1 = some m.cls := findClass_of_methodNamed B.named
  have hlocks := B.notSynchronized
  have hS : va_S A s.heap s.heap [] := va_S.rf
  have hl := lv_entry ([.ref (adV i), .int (nI j)]) (n := 2) (Nat.le_of_ble_eq_true rfl)
  rw [lg_entry_eq]
  generalize (lg_sl ([Value.ref (adV i), .int (nI j)]) ++ List.replicate (2 - (lg_sl ([Value.ref (adV i), .int (nI j)])).length) Slot.unset).toArray = ls at hl ⊢
  have hl : lv_has ls 2 [(0, .ref (adV i)), (1, .int (nI j))] := hl
  obtain ⟨-, -, hV, -, hZ, q, hZ2⟩ := id hE
  obtain ⟨v1, v2, v3, v4⟩ := hV i hi
  have hlen := gTl_lt hi
  have hb31 : (gTxt.map List.length).getD i 0 < 2 ^ 31 := Nat.lt_trans hlen (by decide)
  have hin : vp_in (nI j) ((gTxt.map List.length).getD i 0) := vp_in_nI hj hb31
  have hcl : (nI j).toNatClampNeg = j := nI_clamp (by omega)
  obtain ⟨c1, c2⟩ := gCh_spec hi hj
  refine lv_iload_n hx hb (by decide +kernel : decode cJ1_charAt_3b067 0 = .ok (.iload_n 1, 1)) rfl (lv_at hl 1 rfl) ?_
  refine lv_aload_n hx hb (by decide +kernel : decode cJ1_charAt_3b067 1 = .ok (.aload_n 0, 1)) rfl (lv_at hl 0 rfl) ?_
  refine va_tlen hx hb v4 hS rfl (by decide +kernel : decode cJ1_charAt_3b067 2 = .ok (.arraylength, 1)) ?_
  refine va_csv (a := [Value.int (nI j), .int (nI ((gTxt.map List.length).getD i 0))].toArray) (W.runS (As := [.int (nI j), .int (nI ((gTxt.map List.length).getD i 0))]) (rest := []) ⟨hx, hb, hml, hown, hts⟩ (m_chk l adK adV A (nI j) (nI ((gTxt.map List.length).getD i 0)) (nI_pos (by omega)) (nI_lt hj hb31)) (va_cwS 2 hts (jGoodS js_m9 js_t_chk js_n_S js_c_chk) rfl rfl rfl (by decide +kernel) ⟨Nat.le_of_ble_eq_true rfl, Nat.le_of_ble_eq_true rfl⟩) ⟨jPc_blind, jPre hE⟩ rfl rfl hl.1 rfl (lv_room (Nat.le_of_ble_eq_true rfl)) (by decide +kernel : decode cJ1_charAt_3b067 3 = .ok (.invokestatic 9, 3)) ⟨Nat.le_refl _, Nat.le_refl _⟩) (fun _ => ?_)
  refine lv_aload_n hx hb (by decide +kernel : decode cJ1_charAt_3b067 6 = .ok (.aload_n 0, 1)) rfl (lv_at hl 0 rfl) ?_
  refine lv_iload_n hx hb (by decide +kernel : decode cJ1_charAt_3b067 7 = .ok (.iload_n 1, 1)) rfl (lv_at hl 1 rfl) ?_
  refine va_tb (v := .int (gCh i j)) hx hb v4 hS hin (by rw [hcl]; rfl) (by decide +kernel : decode cJ1_charAt_3b067 8 = .ok (.baload, 1)) ?_
  refine lv_sipush (v := 255) hx hb (by decide +kernel : decode cJ1_charAt_3b067 9 = .ok (.sipush 255, 3)) (by decide) ?_
  refine lv_iand hx hb (by decide +kernel : decode cJ1_charAt_3b067 12 = .ok (.iand, 1)) ?_
  refine lv_i2c (v := gCh i j) hx hb (by decide +kernel : decode cJ1_charAt_3b067 13 = .ok (.i2c, 1)) c1 ?_
  exact W.zret (ty := .char) hx hb hr c2 (fun t ht hW => ⟨rfl, ht⟩) (fun q hq => by cases hq) (by decide +kernel : decode cJ1_charAt_3b067 14 = .ok (.ireturn, 1))
end JS
/-- String.length of a constant -/
def gSl (as : List gAV) (h : gH) : Option (Option gAV × gH) := match as with
  | [.inr (.inr (.inr i))] => if i < gTxt.length then some (some (vI ((gTxt.map List.length).getD i 0)), h) else none
  | _ => none
def gSc (as : List gAV) (h : gH) : Option (Option gAV × gH) := match as with
  | [.inr (.inr (.inr i)), .inl j] => if i < gTxt.length ∧ 0 ≤ j ∧ j.toNat < (gTxt.map List.length).getD i 0 then some (some (vI (gCh i j.toNat).toInt), h) else none
  | _ => none
set_option maxRecDepth 100000 in
theorem gMet_len {l : Launch} {D : va_G} {adK adV : Nat → Nat} {d : Nat} (hd : 1 ≤ d) {as : List gAV} {h h' : gH} {r : Option gAV} (hr0 : gSl as h = some (r, h')) : gLe h h' ∧ gMet l D adK adV d (yJ0_length_8abf5, cJ0_length_8abf5, 1, some (FieldType.int), none) as h r h' := by
  unfold gSl at hr0
  split at hr0
  rotate_left
  · cases hr0
  rename_i i
  split at hr0
  rotate_left
  · cases hr0
  rename_i hi
  cases hr0
  refine ⟨gLe.rf, fun ws tys sz vals hR hA0 => ?_⟩
  obtain ⟨hlen, hvals⟩ := hA0
  obtain ⟨w0, hw0, -, rfl⟩ := hvals 0 _ rfl
  match vals, hlen, hw0 with
  | [.ref _], hlen, rfl =>
    refine Met.ofW (cc := cJ0_length_8abf5) (maxL := 1) (ret := some .int) (by decide) rfl ?_
    intro p e s m args below meth c s₁ B hml hv
    obtain ⟨rfl, hsz, hP, hK, hD0, hE⟩ := hv
    have hx := B.exec
    have hb := B.bytes
    have hr := B.returns
    have hts0 := atoms_spec (ws := Cond.code yJ0_length_8abf5 cJ0_length_8abf5 1 (some (FieldType.int)) :: gTw) B.pre
    have hts : ∀ w ∈ gTw, w.before [Value.ref (adK i)].toArray s = true := fun w hw => hts0 w (List.mem_cons_of_mem _ hw)
    have hown : s.vm.findClass RJ0 = some m.cls := findClass_of_methodNamed B.named
    have hlocks := B.notSynchronized
    subst hsz
    have hS : va_S (va_A ws s.heap.size) s.heap s.heap [] := va_S.rf
    have hl := lv_entry ([.ref (adK i)]) (n := 1) (Nat.le_of_ble_eq_true rfl)
    rw [lg_entry_eq]
    generalize (lg_sl ([Value.ref (adK i)]) ++ List.replicate (1 - (lg_sl ([Value.ref (adK i)])).length) Slot.unset).toArray = ls at hl ⊢
    have hl : lv_has ls 1 [(0, .ref (adK i))] := hl
    obtain ⟨-, -, hV, -, hZ, q, hZ2⟩ := id hE
    obtain ⟨v1, v2, v3, v4⟩ := hV i hi
    have hlt := gTl_lt hi
    refine lv_aload_n hx hb (by decide +kernel : decode cJ0_length_8abf5 0 = .ok (.aload_n 0, 1)) rfl (lv_at hl 0 rfl) ?_
    refine vk_getf hx hb v3 hS hown (hts _ js_f9) (fun _ h => h) (by decide +kernel : decode cJ0_length_8abf5 1 = .ok (.getfield 9, 3)) ?_
    refine va_tlen hx hb v4 hS rfl (by decide +kernel : decode cJ0_length_8abf5 4 = .ok (.arraylength, 1)) ?_
    refine lv_aload_n hx hb (by decide +kernel : decode cJ0_length_8abf5 5 = .ok (.aload_n 0, 1)) rfl (lv_at hl 0 rfl) ?_
    refine W.callR (a := [Value.ref (adK i)].toArray) (r := 0) (W.runV (C := "java/lang/String") (b := adK i) (As := []) (rest := [.int (nI ((gTxt.map List.length).getD i 0))]) ⟨hx, hb, hml, hown, hts⟩ (m_coder l adK adV (va_A ws s.heap.size) i hi) (cwV 0 hts (jGoodV js_m335 js_i_coder js_s_coder js_n_S js_c_cod) rfl rfl rfl (by decide +kernel) ⟨by simp only [jR, gRoom, headSpec]; omega, by simp only [jR, gRoom, headSpec]; omega⟩) ⟨jPc_blind, hV.recv hi hS, jPre hE⟩ rfl rfl hl.1 rfl (lv_room (Nat.le_of_ble_eq_true rfl)) (by decide +kernel : decode cJ0_length_8abf5 6 = .ok (.invokevirtual 335, 3)) ⟨by simp [gRoom, headSpec], by simp [gRoom, headSpec]⟩) ?_
    refine lv_ishr hx hb (by decide +kernel : decode cJ0_length_8abf5 9 = .ok (.ishr, 1)) ?_
    have hD := hD0.self (sz := s.heap.size)
    have e0 : nI ((gTxt.map List.length).getD i 0) >>> ((0 : Int32) &&& 31) = nI ((gTxt.map List.length).getD i 0) := by
      apply Int32.toInt_inj.mp
      rw [pk_shr _ _ 0 (by decide)]
      simp
    rw [e0]
    have fin := W.iret (R := (headSpec (Cond.code yJ0_length_8abf5 cJ0_length_8abf5 1 (some (FieldType.int)) :: gTw) (gRoom d (h.1.2.1 - h.1.2.1) (h.1.2.2 - h.1.2.2))).room) (p := p) (l := l) (e := e) (m := m) (below := below) (c := c) (cells := 0) (slots := 0) (ls := ls) (Qc := gQc D adK ws s.heap.size (some (vI ((gTxt.map List.length).getD i 0))) h) (free := va_A ws s.heap.size) (v := nI ((gTxt.map List.length).getD i 0)) (args := [Value.ref (adK i)].toArray) (H := s.heap) (locs := []) hx hb hr (fun t ht hW => ⟨⟨some (.int (nI ((gTxt.map List.length).getD i 0))), ws, tys, rfl, ⟨_, rfl, _, rfl, nI_toInt (by omega)⟩, by rw [ht]; exact hP, va_K.moved hW.alike hK, hD, hR, gExt.rf⟩, hS.F ht⟩) (fun q hq => by cases hq) (by decide +kernel : decode cJ0_length_8abf5 10 = .ok (.ireturn, 1))
    simp only [Nat.sub_self] at fin ⊢
    exact fin
set_option maxRecDepth 100000 in
theorem gMet_chr {l : Launch} {D : va_G} {adK adV : Nat → Nat} {d : Nat} (hd : 3 ≤ d) {as : List gAV} {h h' : gH} {r : Option gAV} (hr0 : gSc as h = some (r, h')) : gLe h h' ∧ gMet l D adK adV d (yJ0_charAt_5068e, cJ0_charAt_5068e, 2, some (FieldType.char), none) as h r h' := by
  unfold gSc at hr0
  split at hr0
  rotate_left
  · cases hr0
  rename_i i jz
  split at hr0
  rotate_left
  · cases hr0
  rename_i hij
  cases hr0
  obtain ⟨hi, hj0, hj⟩ := hij
  refine ⟨gLe.rf, fun ws tys sz vals hR hA0 => ?_⟩
  obtain ⟨hlen, hvals⟩ := hA0
  obtain ⟨w0, hw0, -, rfl⟩ := hvals 0 _ rfl
  obtain ⟨w1, hw1, jv, rfl, hjv⟩ := hvals 1 _ rfl
  match vals, hlen, hw0, hw1 with
  | [.ref _, .int _], hlen, rfl, rfl =>
    have hlt := gTl_lt hi
    have ej : jv = nI jz.toNat := by
      apply Int32.toInt_inj.mp
      rw [hjv, nI_toInt (by omega)]
      omega
    subst ej
    refine Met.ofW (cc := cJ0_charAt_5068e) (maxL := 2) (ret := some .char) (by decide) rfl ?_
    intro p e s m args below meth c s₁ B hml hv
    obtain ⟨rfl, hsz, hP, hK, hD0, hE⟩ := hv
    have hx := B.exec
    have hb := B.bytes
    have hr := B.returns
    have hts0 := atoms_spec (ws := Cond.code yJ0_charAt_5068e cJ0_charAt_5068e 2 (some (FieldType.char)) :: gTw) B.pre
    have hts : ∀ w ∈ gTw, w.before [Value.ref (adK i), .int (nI jz.toNat)].toArray s = true := fun w hw => hts0 w (List.mem_cons_of_mem _ hw)
    have hown : s.vm.findClass RJ0 = some m.cls := findClass_of_methodNamed B.named
    have hlocks := B.notSynchronized
    subst hsz
    have hS : va_S (va_A ws s.heap.size) s.heap s.heap [] := va_S.rf
    have hl := lv_entry ([.ref (adK i), .int (nI jz.toNat)]) (n := 2) (Nat.le_of_ble_eq_true rfl)
    rw [lg_entry_eq]
    generalize (lg_sl ([Value.ref (adK i), .int (nI jz.toNat)]) ++ List.replicate (2 - (lg_sl ([Value.ref (adK i), .int (nI jz.toNat)])).length) Slot.unset).toArray = ls at hl ⊢
    have hl : lv_has ls 2 [(0, .ref (adK i)), (1, .int (nI jz.toNat))] := hl
    obtain ⟨-, -, hV, -, hZ, q, hZ2⟩ := id hE
    obtain ⟨v1, v2, v3, v4⟩ := hV i hi
    obtain ⟨c1, c2⟩ := gCh_spec hi hj
    refine lv_aload_n hx hb (by decide +kernel : decode cJ0_charAt_5068e 0 = .ok (.aload_n 0, 1)) rfl (lv_at hl 0 rfl) ?_
    refine W.callR (a := [Value.ref (adK i)].toArray) (r := 1) (W.runV (C := "java/lang/String") (b := adK i) (As := []) (rest := []) ⟨hx, hb, hml, hown, hts⟩ (m_latin l adK adV (va_A ws s.heap.size) i hi) (cwV 0 hts (jGoodV js_m492 js_i_isLatin1 js_s_isLatin1 js_n_S js_c_isl) rfl rfl rfl (by decide +kernel) ⟨by simp only [jR, gRoom, headSpec]; omega, by simp only [jR, gRoom, headSpec]; omega⟩) ⟨jPc_blind, hV.recv hi hS, jPre hE⟩ rfl rfl hl.1 rfl (lv_room (Nat.le_of_ble_eq_true rfl)) (by decide +kernel : decode cJ0_charAt_5068e 1 = .ok (.invokevirtual 492, 3)) ⟨by simp [gRoom, headSpec], by simp [gRoom, headSpec]⟩) ?_
    refine W.eq (g2 := F0 m 4 ls [.int 1]) rfl ?_
    refine lv_if_eq (tgt := 16) hx hb (by decide +kernel : decode cJ0_charAt_5068e 4 = .ok (.ifCond .eq 12, 3)) (by decide) (fun h => absurd h (by decide)) (fun _ => ?_)
    refine lv_aload_n hx hb (by decide +kernel : decode cJ0_charAt_5068e 7 = .ok (.aload_n 0, 1)) rfl (lv_at hl 0 rfl) ?_
    refine vk_getf hx hb v3 hS hown (hts _ js_f9) (fun _ h => h) (by decide +kernel : decode cJ0_charAt_5068e 8 = .ok (.getfield 9, 3)) ?_
    refine lv_iload_n hx hb (by decide +kernel : decode cJ0_charAt_5068e 11 = .ok (.iload_n 1, 1)) rfl (lv_at hl 1 rfl) ?_
    refine W.callR (a := [Value.ref (adV i), .int (nI jz.toNat)].toArray) (r := gCh i jz.toNat) (W.runS (As := [.ref (adV i), .int (nI jz.toNat)]) (rest := []) ⟨hx, hb, hml, hown, hts⟩ (m_lch l adK adV (va_A ws s.heap.size) i jz.toNat hi hj) (va_cwS 2 hts (jGoodS js_m495 js_t_lch js_n_L js_c_lch) rfl rfl rfl (by decide +kernel) ⟨by simp only [jR, gRoom, headSpec]; omega, by simp only [jR, gRoom, headSpec]; omega⟩) ⟨jPc_blind, jPre hE⟩ rfl rfl hl.1 rfl (lv_room (Nat.le_of_ble_eq_true rfl)) (by decide +kernel : decode cJ0_charAt_5068e 12 = .ok (.invokestatic 495, 3)) ⟨by simp [gRoom, headSpec], by simp [gRoom, headSpec]⟩) ?_
    have hD := hD0.self (sz := s.heap.size)
    have fin := W.zret (ty := .char) (R := (headSpec (Cond.code yJ0_charAt_5068e cJ0_charAt_5068e 2 (some (FieldType.char)) :: gTw) (gRoom d (h.1.2.1 - h.1.2.1) (h.1.2.2 - h.1.2.2))).room) (p := p) (l := l) (e := e) (m := m) (below := below) (c := c) (cells := 0) (slots := 0) (ls := ls) (Qc := gQc D adK ws s.heap.size (some (vI (gCh i jz.toNat).toInt)) h) (free := va_A ws s.heap.size) (v := gCh i jz.toNat) (args := [Value.ref (adK i), .int (nI jz.toNat)].toArray) (H := s.heap) (locs := []) hx hb hr c2 (fun t ht hW => ⟨⟨some (.int (gCh i jz.toNat)), ws, tys, rfl, ⟨_, rfl, _, rfl, rfl⟩, by rw [ht]; exact hP, va_K.moved hW.alike hK, hD, hR, gExt.rf⟩, hS.F ht⟩) (fun q hq => by cases hq) (by decide +kernel : decode cJ0_charAt_5068e 15 = .ok (.ireturn, 1))
    simp only [Nat.sub_self] at fin ⊢
    exact fin
