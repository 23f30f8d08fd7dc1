/-! printed by wip/whole/gen.py: what the tables say of fields, methods, constants, classes that the code names -/
theorem gTw_p (i : Nat) {w : Cond} (h : (k2_sels lw_privs)[i]? = some w) (g : goodWord w = true) : w ∈ gTw := gTw_mem (List.mem_append_left _ (List.mem_of_getElem? h)) g
theorem gTw_t {w : Cond} (h : w ∈ tables_1) (g : goodWord w = true) : w ∈ gTw := gTw_mem (List.mem_append_right _ h) g
theorem gMtc_0 {j : Nat} {mi : gMi} (h : gMt_0[j]? = some mi) : gMt[0 + j]? = some mi := by
  rw [show gMt = gMt_0 ++ (gMt_1 ++ (gMt_2 ++ (gMt_3 ++ (gMt_4 ++ (gMt_5 ++ (gMt_6 ++ gMt_7)))))) from rfl]
  rw [show 0 + j = j by omega]
  rw [List.getElem?_append_left (List.getElem?_eq_some_iff.mp h).1]
  exact h
theorem gMtc_1 {j : Nat} {mi : gMi} (h : gMt_1[j]? = some mi) : gMt[40 + j]? = some mi := by
  rw [show gMt = gMt_0 ++ (gMt_1 ++ (gMt_2 ++ (gMt_3 ++ (gMt_4 ++ (gMt_5 ++ (gMt_6 ++ gMt_7)))))) from rfl]
  rw [List.getElem?_append_right (by show 40 ≤ _; omega), show gMt_0.length = 40 from rfl]
  rw [show 40 + j - 40 = j by omega]
  rw [List.getElem?_append_left (List.getElem?_eq_some_iff.mp h).1]
  exact h
theorem gMtc_2 {j : Nat} {mi : gMi} (h : gMt_2[j]? = some mi) : gMt[80 + j]? = some mi := by
  rw [show gMt = gMt_0 ++ (gMt_1 ++ (gMt_2 ++ (gMt_3 ++ (gMt_4 ++ (gMt_5 ++ (gMt_6 ++ gMt_7)))))) from rfl]
  rw [List.getElem?_append_right (by show 40 ≤ _; omega), show gMt_0.length = 40 from rfl]
  rw [List.getElem?_append_right (by show 40 ≤ _; omega), show gMt_1.length = 40 from rfl]
  rw [show 80 + j - 40 - 40 = j by omega]
  rw [List.getElem?_append_left (List.getElem?_eq_some_iff.mp h).1]
  exact h
theorem gMtc_3 {j : Nat} {mi : gMi} (h : gMt_3[j]? = some mi) : gMt[120 + j]? = some mi := by
  rw [show gMt = gMt_0 ++ (gMt_1 ++ (gMt_2 ++ (gMt_3 ++ (gMt_4 ++ (gMt_5 ++ (gMt_6 ++ gMt_7)))))) from rfl]
  rw [List.getElem?_append_right (by show 40 ≤ _; omega), show gMt_0.length = 40 from rfl]
  rw [List.getElem?_append_right (by show 40 ≤ _; omega), show gMt_1.length = 40 from rfl]
  rw [List.getElem?_append_right (by show 40 ≤ _; omega), show gMt_2.length = 40 from rfl]
  rw [show 120 + j - 40 - 40 - 40 = j by omega]
  rw [List.getElem?_append_left (List.getElem?_eq_some_iff.mp h).1]
  exact h
theorem gMtc_4 {j : Nat} {mi : gMi} (h : gMt_4[j]? = some mi) : gMt[160 + j]? = some mi := by
  rw [show gMt = gMt_0 ++ (gMt_1 ++ (gMt_2 ++ (gMt_3 ++ (gMt_4 ++ (gMt_5 ++ (gMt_6 ++ gMt_7)))))) from rfl]
  rw [List.getElem?_append_right (by show 40 ≤ _; omega), show gMt_0.length = 40 from rfl]
  rw [List.getElem?_append_right (by show 40 ≤ _; omega), show gMt_1.length = 40 from rfl]
  rw [List.getElem?_append_right (by show 40 ≤ _; omega), show gMt_2.length = 40 from rfl]
  rw [List.getElem?_append_right (by show 40 ≤ _; omega), show gMt_3.length = 40 from rfl]
  rw [show 160 + j - 40 - 40 - 40 - 40 = j by omega]
  rw [List.getElem?_append_left (List.getElem?_eq_some_iff.mp h).1]
  exact h
theorem gMtc_5 {j : Nat} {mi : gMi} (h : gMt_5[j]? = some mi) : gMt[200 + j]? = some mi := by
  rw [show gMt = gMt_0 ++ (gMt_1 ++ (gMt_2 ++ (gMt_3 ++ (gMt_4 ++ (gMt_5 ++ (gMt_6 ++ gMt_7)))))) from rfl]
  rw [List.getElem?_append_right (by show 40 ≤ _; omega), show gMt_0.length = 40 from rfl]
  rw [List.getElem?_append_right (by show 40 ≤ _; omega), show gMt_1.length = 40 from rfl]
  rw [List.getElem?_append_right (by show 40 ≤ _; omega), show gMt_2.length = 40 from rfl]
  rw [List.getElem?_append_right (by show 40 ≤ _; omega), show gMt_3.length = 40 from rfl]
  rw [List.getElem?_append_right (by show 40 ≤ _; omega), show gMt_4.length = 40 from rfl]
  rw [show 200 + j - 40 - 40 - 40 - 40 - 40 = j by omega]
  rw [List.getElem?_append_left (List.getElem?_eq_some_iff.mp h).1]
  exact h
theorem gMtc_6 {j : Nat} {mi : gMi} (h : gMt_6[j]? = some mi) : gMt[240 + j]? = some mi := by
  rw [show gMt = gMt_0 ++ (gMt_1 ++ (gMt_2 ++ (gMt_3 ++ (gMt_4 ++ (gMt_5 ++ (gMt_6 ++ gMt_7)))))) from rfl]
  rw [List.getElem?_append_right (by show 40 ≤ _; omega), show gMt_0.length = 40 from rfl]
  rw [List.getElem?_append_right (by show 40 ≤ _; omega), show gMt_1.length = 40 from rfl]
  rw [List.getElem?_append_right (by show 40 ≤ _; omega), show gMt_2.length = 40 from rfl]
  rw [List.getElem?_append_right (by show 40 ≤ _; omega), show gMt_3.length = 40 from rfl]
  rw [List.getElem?_append_right (by show 40 ≤ _; omega), show gMt_4.length = 40 from rfl]
  rw [List.getElem?_append_right (by show 40 ≤ _; omega), show gMt_5.length = 40 from rfl]
  rw [show 240 + j - 40 - 40 - 40 - 40 - 40 - 40 = j by omega]
  rw [List.getElem?_append_left (List.getElem?_eq_some_iff.mp h).1]
  exact h
theorem gMtc_7 {j : Nat} {mi : gMi} (h : gMt_7[j]? = some mi) : gMt[280 + j]? = some mi := by
  rw [show gMt = gMt_0 ++ (gMt_1 ++ (gMt_2 ++ (gMt_3 ++ (gMt_4 ++ (gMt_5 ++ (gMt_6 ++ gMt_7)))))) from rfl]
  rw [List.getElem?_append_right (by show 40 ≤ _; omega), show gMt_0.length = 40 from rfl]
  rw [List.getElem?_append_right (by show 40 ≤ _; omega), show gMt_1.length = 40 from rfl]
  rw [List.getElem?_append_right (by show 40 ≤ _; omega), show gMt_2.length = 40 from rfl]
  rw [List.getElem?_append_right (by show 40 ≤ _; omega), show gMt_3.length = 40 from rfl]
  rw [List.getElem?_append_right (by show 40 ≤ _; omega), show gMt_4.length = 40 from rfl]
  rw [List.getElem?_append_right (by show 40 ≤ _; omega), show gMt_5.length = 40 from rfl]
  rw [List.getElem?_append_right (by show 40 ≤ _; omega), show gMt_6.length = 40 from rfl]
  rw [show 280 + j - 40 - 40 - 40 - 40 - 40 - 40 - 40 = j by omega]
  exact h
theorem gTw_1 (i : Nat) {w : Cond} (h : tables_1_1[i]? = some w) (g : goodWord w = true) : w ∈ gTw := gTw_t (List.mem_append_left _ (List.mem_of_getElem? h)) g
theorem gTw_2 (i : Nat) {w : Cond} (h : tables_1_2[i]? = some w) (g : goodWord w = true) : w ∈ gTw := gTw_t (List.mem_append_right _ (List.mem_append_left _ (List.mem_of_getElem? h))) g
theorem gTw_3 (i : Nat) {w : Cond} (h : tables_1_3[i]? = some w) (g : goodWord w = true) : w ∈ gTw := gTw_t (List.mem_append_right _ (List.mem_append_right _ (List.mem_append_left _ (List.mem_of_getElem? h)))) g
theorem gTw_4 (i : Nat) {w : Cond} (h : tables_1_4[i]? = some w) (g : goodWord w = true) : w ∈ gTw := gTw_t (List.mem_append_right _ (List.mem_append_right _ (List.mem_append_right _ (List.mem_append_left _ (List.mem_of_getElem? h))))) g
theorem gTw_5 (i : Nat) {w : Cond} (h : tables_1_5[i]? = some w) (g : goodWord w = true) : w ∈ gTw := gTw_t (List.mem_append_right _ (List.mem_append_right _ (List.mem_append_right _ (List.mem_append_right _ (List.mem_append_left _ (List.mem_of_getElem? h)))))) g
theorem gTw_6 (i : Nat) {w : Cond} (h : tables_1_6[i]? = some w) (g : goodWord w = true) : w ∈ gTw := gTw_t (List.mem_append_right _ (List.mem_append_right _ (List.mem_append_right _ (List.mem_append_right _ (List.mem_append_right _ (List.mem_append_left _ (List.mem_of_getElem? h))))))) g
theorem gTw_7 (i : Nat) {w : Cond} (h : tables_1_7[i]? = some w) (g : goodWord w = true) : w ∈ gTw := gTw_t (List.mem_append_right _ (List.mem_append_right _ (List.mem_append_right _ (List.mem_append_right _ (List.mem_append_right _ (List.mem_append_right _ (List.mem_append_left _ (List.mem_of_getElem? h)))))))) g
theorem gTw_8 (i : Nat) {w : Cond} (h : tables_1_8[i]? = some w) (g : goodWord w = true) : w ∈ gTw := gTw_t (List.mem_append_right _ (List.mem_append_right _ (List.mem_append_right _ (List.mem_append_right _ (List.mem_append_right _ (List.mem_append_right _ (List.mem_append_right _ (List.mem_append_left _ (List.mem_of_getElem? h))))))))) g
theorem gTw_9 (i : Nat) {w : Cond} (h : tables_1_9[i]? = some w) (g : goodWord w = true) : w ∈ gTw := gTw_t (List.mem_append_right _ (List.mem_append_right _ (List.mem_append_right _ (List.mem_append_right _ (List.mem_append_right _ (List.mem_append_right _ (List.mem_append_right _ (List.mem_append_right _ (List.mem_append_left _ (List.mem_of_getElem? h)))))))))) g
theorem gTw_10 (i : Nat) {w : Cond} (h : tables_1_10[i]? = some w) (g : goodWord w = true) : w ∈ gTw := gTw_t (List.mem_append_right _ (List.mem_append_right _ (List.mem_append_right _ (List.mem_append_right _ (List.mem_append_right _ (List.mem_append_right _ (List.mem_append_right _ (List.mem_append_right _ (List.mem_append_right _ (List.mem_of_getElem? h)))))))))) g
theorem fk_RX11_9 : gFk RX11 9 11 0 := ⟨_, _, _, rfl, by decide, (Or.inl (gTw_3 75 (by decide +kernel) (by decide +kernel)))⟩
theorem fk_RX11_13 : gFk RX11 13 11 1 := ⟨_, _, _, rfl, by decide, (Or.inl (gTw_3 76 (by decide +kernel) (by decide +kernel)))⟩
theorem fk_RX11_20 : gFk RX11 20 11 2 := ⟨_, _, _, rfl, by decide, (Or.inl (gTw_3 77 (by decide +kernel) (by decide +kernel)))⟩
theorem fk_RX11_24 : gFk RX11 24 11 3 := ⟨_, _, _, rfl, by decide, (Or.inl (gTw_3 78 (by decide +kernel) (by decide +kernel)))⟩
theorem fk_RX11_32 : gFk RX11 32 11 4 := ⟨_, _, _, rfl, by decide, (Or.inl (gTw_3 79 (by decide +kernel) (by decide +kernel)))⟩
theorem fk_RX11_39 : gFk RX11 39 11 5 := ⟨_, _, _, rfl, by decide, (Or.inl (gTw_3 80 (by decide +kernel) (by decide +kernel)))⟩
theorem fk_RX11_43 : gFk RX11 43 11 6 := ⟨_, _, _, rfl, by decide, (Or.inl (gTw_3 81 (by decide +kernel) (by decide +kernel)))⟩
theorem fk_RX11_49 : gFk RX11 49 11 7 := ⟨_, _, _, rfl, by decide, (Or.inl (gTw_3 82 (by decide +kernel) (by decide +kernel)))⟩
theorem fk_RX11_63 : gFk RX11 63 11 8 := ⟨_, _, _, rfl, by decide, (Or.inl (gTw_3 83 (by decide +kernel) (by decide +kernel)))⟩
theorem fk_RX11_67 : gFk RX11 67 11 9 := ⟨_, _, _, rfl, by decide, (Or.inl (gTw_3 84 (by decide +kernel) (by decide +kernel)))⟩
theorem fk_RX11_73 : gFk RX11 73 11 10 := ⟨_, _, _, rfl, by decide, (Or.inl (gTw_3 85 (by decide +kernel) (by decide +kernel)))⟩
theorem fk_RX11_80 : gFk RX11 80 11 11 := ⟨_, _, _, rfl, by decide, (Or.inl (gTw_3 86 (by decide +kernel) (by decide +kernel)))⟩
theorem fk_RX11_87 : gFk RX11 87 11 12 := ⟨_, _, _, rfl, by decide, (Or.inl (gTw_3 87 (by decide +kernel) (by decide +kernel)))⟩
theorem fk_RX11_94 : gFk RX11 94 11 13 := ⟨_, _, _, rfl, by decide, (Or.inl (gTw_3 88 (by decide +kernel) (by decide +kernel)))⟩
theorem fk_RX11_98 : gFk RX11 98 11 14 := ⟨_, _, _, rfl, by decide, (Or.inl (gTw_3 89 (by decide +kernel) (by decide +kernel)))⟩
theorem fk_RX11_102 : gFk RX11 102 11 15 := ⟨_, _, _, rfl, by decide, (Or.inl (gTw_3 90 (by decide +kernel) (by decide +kernel)))⟩
theorem fk_RX11_130 : gFk RX11 130 4 4 := ⟨_, _, _, rfl, by decide, (Or.inl (gTw_1 141 (by decide +kernel) (by decide +kernel)))⟩
theorem fk_RX11_136 : gFk RX11 136 9 9 := ⟨_, _, _, rfl, by decide, (Or.inl (gTw_2 12 (by decide +kernel) (by decide +kernel)))⟩
theorem fk_RX11_139 : gFk RX11 139 9 10 := ⟨_, _, _, rfl, by decide, (Or.inl (gTw_2 14 (by decide +kernel) (by decide +kernel)))⟩
theorem fk_RX11_146 : gFk RX11 146 4 5 := ⟨_, _, _, rfl, by decide, (Or.inl (gTw_1 147 (by decide +kernel) (by decide +kernel)))⟩
theorem fk_RX11_150 : gFk RX11 150 10 0 := ⟨_, _, _, rfl, by decide, (Or.inl (gTw_2 46 (by decide +kernel) (by decide +kernel)))⟩
theorem fk_RX11_154 : gFk RX11 154 10 1 := ⟨_, _, _, rfl, by decide, (Or.inl (gTw_2 48 (by decide +kernel) (by decide +kernel)))⟩
theorem fk_RX11_157 : gFk RX11 157 10 2 := ⟨_, _, _, rfl, by decide, (Or.inl (gTw_2 51 (by decide +kernel) (by decide +kernel)))⟩
theorem fk_RX11_160 : gFk RX11 160 8 7 := ⟨_, _, _, rfl, by decide, (Or.inl (gTw_1 71 (by decide +kernel) (by decide +kernel)))⟩
theorem fk_RX11_165 : gFk RX11 165 8 8 := ⟨_, _, _, rfl, by decide, (Or.inl (gTw_1 75 (by decide +kernel) (by decide +kernel)))⟩
theorem fk_RX11_168 : gFk RX11 168 8 9 := ⟨_, _, _, rfl, by decide, (Or.inl (gTw_1 79 (by decide +kernel) (by decide +kernel)))⟩
theorem fk_RX11_171 : gFk RX11 171 8 4 := ⟨_, _, _, rfl, by decide, (Or.inl (gTw_1 59 (by decide +kernel) (by decide +kernel)))⟩
theorem fk_RX11_174 : gFk RX11 174 8 5 := ⟨_, _, _, rfl, by decide, (Or.inl (gTw_1 63 (by decide +kernel) (by decide +kernel)))⟩
theorem fk_RX11_177 : gFk RX11 177 8 10 := ⟨_, _, _, rfl, by decide, (Or.inl (gTw_1 83 (by decide +kernel) (by decide +kernel)))⟩
theorem fk_RX11_180 : gFk RX11 180 8 11 := ⟨_, _, _, rfl, by decide, (Or.inl (gTw_1 86 (by decide +kernel) (by decide +kernel)))⟩
theorem fk_RX11_186 : gFk RX11 186 4 17 := ⟨_, _, _, rfl, by decide, (Or.inl (gTw_1 190 (by decide +kernel) (by decide +kernel)))⟩
theorem fk_RX11_201 : gFk RX11 201 1 0 := ⟨_, _, _, rfl, by decide, (Or.inl (gTw_2 181 (by decide +kernel) (by decide +kernel)))⟩
theorem fk_RX11_205 : gFk RX11 205 0 8 := ⟨_, _, _, rfl, by decide, (Or.inl (gTw_2 128 (by decide +kernel) (by decide +kernel)))⟩
theorem fk_RX11_208 : gFk RX11 208 0 9 := ⟨_, _, _, rfl, by decide, (Or.inl (gTw_2 131 (by decide +kernel) (by decide +kernel)))⟩
theorem fk_RX11_211 : gFk RX11 211 0 10 := ⟨_, _, _, rfl, by decide, (Or.inl (gTw_2 134 (by decide +kernel) (by decide +kernel)))⟩
theorem fk_RX11_214 : gFk RX11 214 0 11 := ⟨_, _, _, rfl, by decide, (Or.inl (gTw_2 136 (by decide +kernel) (by decide +kernel)))⟩
theorem fk_RX11_217 : gFk RX11 217 0 12 := ⟨_, _, _, rfl, by decide, (Or.inl (gTw_2 138 (by decide +kernel) (by decide +kernel)))⟩
theorem fk_RX11_220 : gFk RX11 220 0 13 := ⟨_, _, _, rfl, by decide, (Or.inl (gTw_2 140 (by decide +kernel) (by decide +kernel)))⟩
theorem fk_RX11_240 : gFk RX11 240 4 1 := ⟨_, _, _, rfl, by decide, (Or.inl (gTw_1 126 (by decide +kernel) (by decide +kernel)))⟩
theorem fk_RX11_243 : gFk RX11 243 1 12 := ⟨_, _, _, rfl, by decide, (Or.inl (gTw_2 201 (by decide +kernel) (by decide +kernel)))⟩
theorem fk_RX11_249 : gFk RX11 249 1 5 := ⟨_, _, _, rfl, by decide, (Or.inl (gTw_2 187 (by decide +kernel) (by decide +kernel)))⟩
theorem fk_RX11_252 : gFk RX11 252 1 9 := ⟨_, _, _, rfl, by decide, (Or.inl (gTw_2 195 (by decide +kernel) (by decide +kernel)))⟩
theorem fk_RX11_258 : gFk RX11 258 1 7 := ⟨_, _, _, rfl, by decide, (Or.inl (gTw_2 191 (by decide +kernel) (by decide +kernel)))⟩
theorem fk_RX11_261 : gFk RX11 261 1 8 := ⟨_, _, _, rfl, by decide, (Or.inl (gTw_2 193 (by decide +kernel) (by decide +kernel)))⟩
theorem fk_RX11_264 : gFk RX11 264 1 6 := ⟨_, _, _, rfl, by decide, (Or.inl (gTw_2 189 (by decide +kernel) (by decide +kernel)))⟩
theorem fk_RX11_267 : gFk RX11 267 1 10 := ⟨_, _, _, rfl, by decide, (Or.inl (gTw_2 197 (by decide +kernel) (by decide +kernel)))⟩
theorem fk_RX11_270 : gFk RX11 270 1 11 := ⟨_, _, _, rfl, by decide, (Or.inl (gTw_2 199 (by decide +kernel) (by decide +kernel)))⟩
theorem fk_RX11_282 : gFk RX11 282 6 2 := ⟨_, _, _, rfl, by decide, (Or.inl (gTw_3 45 (by decide +kernel) (by decide +kernel)))⟩
theorem fk_RX11_285 : gFk RX11 285 6 1 := ⟨_, _, _, rfl, by decide, (Or.inl (gTw_3 43 (by decide +kernel) (by decide +kernel)))⟩
theorem fk_RX11_292 : gFk RX11 292 4 10 := ⟨_, _, _, rfl, by decide, (Or.inl (gTw_1 165 (by decide +kernel) (by decide +kernel)))⟩
theorem fk_RX11_302 : gFk RX11 302 3 2 := ⟨_, _, _, rfl, by decide, (Or.inl (gTw_2 238 (by decide +kernel) (by decide +kernel)))⟩
theorem fk_RX11_308 : gFk RX11 308 4 13 := ⟨_, _, _, rfl, by decide, (Or.inl (gTw_1 176 (by decide +kernel) (by decide +kernel)))⟩
theorem fk_RX11_315 : gFk RX11 315 4 14 := ⟨_, _, _, rfl, by decide, (Or.inl (gTw_1 179 (by decide +kernel) (by decide +kernel)))⟩
theorem fk_RX11_337 : gFk RX11 337 2 3 := ⟨_, _, _, rfl, by decide, (Or.inl (gTw_3 64 (by decide +kernel) (by decide +kernel)))⟩
theorem fk_RX11_341 : gFk RX11 341 2 2 := ⟨_, _, _, rfl, by decide, (Or.inl (gTw_3 62 (by decide +kernel) (by decide +kernel)))⟩
theorem fk_RX11_350 : gFk RX11 350 10 3 := ⟨_, _, _, rfl, by decide, (Or.inl (gTw_2 55 (by decide +kernel) (by decide +kernel)))⟩
theorem fk_RX11_364 : gFk RX11 364 4 0 := ⟨_, _, _, rfl, by decide, (Or.inl (gTw_1 119 (by decide +kernel) (by decide +kernel)))⟩
theorem fk_RX11_371 : gFk RX11 371 10 7 := ⟨_, _, _, rfl, by decide, (Or.inl (gTw_2 63 (by decide +kernel) (by decide +kernel)))⟩
theorem fk_RX11_374 : gFk RX11 374 5 3 := ⟨_, _, _, rfl, by decide, (Or.inl (gTw_2 94 (by decide +kernel) (by decide +kernel)))⟩
theorem fk_RX11_380 : gFk RX11 380 5 4 := ⟨_, _, _, rfl, by decide, (Or.inl (gTw_2 96 (by decide +kernel) (by decide +kernel)))⟩
theorem fk_RX11_394 : gFk RX11 394 4 2 := ⟨_, _, _, rfl, by decide, (Or.inl (gTw_1 130 (by decide +kernel) (by decide +kernel)))⟩
theorem fk_RX11_397 : gFk RX11 397 4 3 := ⟨_, _, _, rfl, by decide, (Or.inl (gTw_1 134 (by decide +kernel) (by decide +kernel)))⟩
theorem fk_RX11_400 : gFk RX11 400 4 6 := ⟨_, _, _, rfl, by decide, (Or.inl (gTw_1 152 (by decide +kernel) (by decide +kernel)))⟩
theorem fk_RX11_420 : gFk RX11 420 4 15 := ⟨_, _, _, rfl, by decide, (Or.inl (gTw_1 182 (by decide +kernel) (by decide +kernel)))⟩
theorem fk_RX11_423 : gFk RX11 423 4 16 := ⟨_, _, _, rfl, by decide, (Or.inl (gTw_1 185 (by decide +kernel) (by decide +kernel)))⟩
theorem fk_RX0_9 : gFk RX0 9 0 2 := ⟨_, _, _, rfl, by decide, (Or.inl (gTw_2 118 (by decide +kernel) (by decide +kernel)))⟩
theorem fk_RX0_15 : gFk RX0 15 0 3 := ⟨_, _, _, rfl, by decide, (Or.inl (gTw_2 120 (by decide +kernel) (by decide +kernel)))⟩
theorem fk_RX0_18 : gFk RX0 18 0 4 := ⟨_, _, _, rfl, by decide, (Or.inl (gTw_2 121 (by decide +kernel) (by decide +kernel)))⟩
theorem fk_RX0_21 : gFk RX0 21 0 5 := ⟨_, _, _, rfl, by decide, (Or.inl (gTw_2 123 (by decide +kernel) (by decide +kernel)))⟩
theorem fk_RX0_24 : gFk RX0 24 0 6 := ⟨_, _, _, rfl, by decide, (Or.inl (gTw_2 124 (by decide +kernel) (by decide +kernel)))⟩
theorem fk_RX0_27 : gFk RX0 27 0 7 := ⟨_, _, _, rfl, by decide, (Or.inl (gTw_2 126 (by decide +kernel) (by decide +kernel)))⟩
theorem fk_RX0_30 : gFk RX0 30 0 8 := ⟨_, _, _, rfl, by decide, (Or.inl (gTw_2 127 (by decide +kernel) (by decide +kernel)))⟩
theorem fk_RX0_34 : gFk RX0 34 0 9 := ⟨_, _, _, rfl, by decide, (Or.inl (gTw_2 129 (by decide +kernel) (by decide +kernel)))⟩
theorem fk_RX0_37 : gFk RX0 37 0 10 := ⟨_, _, _, rfl, by decide, (Or.inl (gTw_2 132 (by decide +kernel) (by decide +kernel)))⟩
theorem fk_RX0_40 : gFk RX0 40 0 11 := ⟨_, _, _, rfl, by decide, (Or.inl (gTw_2 135 (by decide +kernel) (by decide +kernel)))⟩
theorem fk_RX0_43 : gFk RX0 43 0 12 := ⟨_, _, _, rfl, by decide, (Or.inl (gTw_2 137 (by decide +kernel) (by decide +kernel)))⟩
theorem fk_RX0_46 : gFk RX0 46 0 13 := ⟨_, _, _, rfl, by decide, (Or.inl (gTw_2 139 (by decide +kernel) (by decide +kernel)))⟩
theorem fk_RX0_49 : gFk RX0 49 0 14 := ⟨_, _, _, rfl, by decide, (Or.inl (gTw_2 141 (by decide +kernel) (by decide +kernel)))⟩
theorem fk_RX0_52 : gFk RX0 52 0 15 := ⟨_, _, _, rfl, by decide, (Or.inl (gTw_2 142 (by decide +kernel) (by decide +kernel)))⟩
theorem fk_RX0_55 : gFk RX0 55 0 0 := ⟨_, _, _, rfl, by decide, (Or.inl (gTw_2 116 (by decide +kernel) (by decide +kernel)))⟩
theorem fk_RX0_59 : gFk RX0 59 0 1 := ⟨_, _, _, rfl, by decide, (Or.inl (gTw_2 117 (by decide +kernel) (by decide +kernel)))⟩
theorem fk_RX0_69 : gFk RX0 69 4 4 := ⟨_, _, _, rfl, by decide, (Or.inl (gTw_1 140 (by decide +kernel) (by decide +kernel)))⟩
theorem fk_RX0_74 : gFk RX0 74 4 18 := ⟨_, _, _, rfl, by decide, (Or.inl (gTw_1 192 (by decide +kernel) (by decide +kernel)))⟩
theorem fk_RX0_81 : gFk RX0 81 4 17 := ⟨_, _, _, rfl, by decide, (Or.inl (gTw_1 189 (by decide +kernel) (by decide +kernel)))⟩
theorem fk_RX0_87 : gFk RX0 87 4 6 := ⟨_, _, _, rfl, by decide, (Or.inl (gTw_1 150 (by decide +kernel) (by decide +kernel)))⟩
theorem fk_RX0_90 : gFk RX0 90 4 7 := ⟨_, _, _, rfl, by decide, (Or.inl (gTw_1 154 (by decide +kernel) (by decide +kernel)))⟩
theorem fk_RX0_93 : gFk RX0 93 4 8 := ⟨_, _, _, rfl, by decide, (Or.inl (gTw_1 157 (by decide +kernel) (by decide +kernel)))⟩
theorem fk_RX0_96 : gFk RX0 96 4 9 := ⟨_, _, _, rfl, by decide, (Or.inl (gTw_1 160 (by decide +kernel) (by decide +kernel)))⟩
theorem fk_RX0_102 : gFk RX0 102 10 3 := ⟨_, _, _, rfl, by decide, (Or.inl (gTw_2 54 (by decide +kernel) (by decide +kernel)))⟩
theorem fk_RX0_105 : gFk RX0 105 10 4 := ⟨_, _, _, rfl, by decide, (Or.inl (gTw_2 57 (by decide +kernel) (by decide +kernel)))⟩
theorem fk_RX0_106 : gFk RX0 106 10 5 := ⟨_, _, _, rfl, by decide, (Or.inl (gTw_2 59 (by decide +kernel) (by decide +kernel)))⟩
theorem fk_RX0_107 : gFk RX0 107 10 6 := ⟨_, _, _, rfl, by decide, (Or.inl (gTw_2 61 (by decide +kernel) (by decide +kernel)))⟩
theorem fk_RX0_112 : gFk RX0 112 4 5 := ⟨_, _, _, rfl, by decide, (Or.inl (gTw_1 146 (by decide +kernel) (by decide +kernel)))⟩
theorem fk_RX0_116 : gFk RX0 116 8 7 := ⟨_, _, _, rfl, by decide, (Or.inl (gTw_1 70 (by decide +kernel) (by decide +kernel)))⟩
theorem fk_RX0_121 : gFk RX0 121 10 0 := ⟨_, _, _, rfl, by decide, (Or.inl (gTw_2 45 (by decide +kernel) (by decide +kernel)))⟩
theorem fk_RX0_128 : gFk RX0 128 4 19 := ⟨_, _, _, rfl, by decide, (Or.inl (gTw_1 194 (by decide +kernel) (by decide +kernel)))⟩
theorem fk_RX0_131 : gFk RX0 131 8 8 := ⟨_, _, _, rfl, by decide, (Or.inl (gTw_1 74 (by decide +kernel) (by decide +kernel)))⟩
theorem fk_RX0_147 : gFk RX0 147 10 2 := ⟨_, _, _, rfl, by decide, (Or.inl (gTw_2 52 (by decide +kernel) (by decide +kernel)))⟩
theorem fk_RX0_153 : gFk RX0 153 10 1 := ⟨_, _, _, rfl, by decide, (Or.inl (gTw_2 49 (by decide +kernel) (by decide +kernel)))⟩
theorem fk_RX0_156 : gFk RX0 156 8 5 := ⟨_, _, _, rfl, by decide, (Or.inl (gTw_1 64 (by decide +kernel) (by decide +kernel)))⟩
theorem fk_RX0_159 : gFk RX0 159 4 1 := ⟨_, _, _, rfl, by decide, (Or.inl (gTw_1 125 (by decide +kernel) (by decide +kernel)))⟩
theorem fk_RX0_162 : gFk RX0 162 8 4 := ⟨_, _, _, rfl, by decide, (Or.inl (gTw_1 60 (by decide +kernel) (by decide +kernel)))⟩
theorem fk_RX1_9 : gFk RX1 9 1 1 := ⟨_, _, _, rfl, by decide, (Or.inl (gTw_2 182 (by decide +kernel) (by decide +kernel)))⟩
theorem fk_RX1_15 : gFk RX1 15 1 2 := ⟨_, _, _, rfl, by decide, (Or.inl (gTw_2 183 (by decide +kernel) (by decide +kernel)))⟩
theorem fk_RX1_18 : gFk RX1 18 1 3 := ⟨_, _, _, rfl, by decide, (Or.inl (gTw_2 184 (by decide +kernel) (by decide +kernel)))⟩
theorem fk_RX1_21 : gFk RX1 21 1 4 := ⟨_, _, _, rfl, by decide, (Or.inl (gTw_2 185 (by decide +kernel) (by decide +kernel)))⟩
theorem fk_RX1_24 : gFk RX1 24 1 5 := ⟨_, _, _, rfl, by decide, (Or.inl (gTw_2 186 (by decide +kernel) (by decide +kernel)))⟩
theorem fk_RX1_27 : gFk RX1 27 1 6 := ⟨_, _, _, rfl, by decide, (Or.inl (gTw_2 188 (by decide +kernel) (by decide +kernel)))⟩
theorem fk_RX1_30 : gFk RX1 30 1 7 := ⟨_, _, _, rfl, by decide, (Or.inl (gTw_2 190 (by decide +kernel) (by decide +kernel)))⟩
theorem fk_RX1_33 : gFk RX1 33 1 8 := ⟨_, _, _, rfl, by decide, (Or.inl (gTw_2 192 (by decide +kernel) (by decide +kernel)))⟩
theorem fk_RX1_36 : gFk RX1 36 1 9 := ⟨_, _, _, rfl, by decide, (Or.inl (gTw_2 194 (by decide +kernel) (by decide +kernel)))⟩
theorem fk_RX1_40 : gFk RX1 40 1 10 := ⟨_, _, _, rfl, by decide, (Or.inl (gTw_2 196 (by decide +kernel) (by decide +kernel)))⟩
theorem fk_RX1_43 : gFk RX1 43 1 11 := ⟨_, _, _, rfl, by decide, (Or.inl (gTw_2 198 (by decide +kernel) (by decide +kernel)))⟩
theorem fk_RX1_46 : gFk RX1 46 1 12 := ⟨_, _, _, rfl, by decide, (Or.inl (gTw_2 200 (by decide +kernel) (by decide +kernel)))⟩
theorem fk_RX1_49 : gFk RX1 49 1 0 := ⟨_, _, _, rfl, by decide, (Or.inl (gTw_2 180 (by decide +kernel) (by decide +kernel)))⟩
theorem fk_RX1_65 : gFk RX1 65 4 0 := ⟨_, _, _, rfl, by decide, (Or.inl (gTw_1 117 (by decide +kernel) (by decide +kernel)))⟩
theorem fk_RX1_91 : gFk RX1 91 0 10 := ⟨_, _, _, rfl, by decide, (Or.inl (gTw_2 133 (by decide +kernel) (by decide +kernel)))⟩
theorem fk_RX1_94 : gFk RX1 94 4 1 := ⟨_, _, _, rfl, by decide, (Or.inl (gTw_1 124 (by decide +kernel) (by decide +kernel)))⟩
theorem fk_RX1_97 : gFk RX1 97 4 11 := ⟨_, _, _, rfl, by decide, (Or.inl (gTw_1 168 (by decide +kernel) (by decide +kernel)))⟩
theorem fk_RX1_103 : gFk RX1 103 4 12 := ⟨_, _, _, rfl, by decide, (Or.inl (gTw_1 172 (by decide +kernel) (by decide +kernel)))⟩
theorem fk_RX1_106 : gFk RX1 106 0 2 := ⟨_, _, _, rfl, by decide, (Or.inl (gTw_2 119 (by decide +kernel) (by decide +kernel)))⟩
theorem fk_RX1_114 : gFk RX1 114 4 4 := ⟨_, _, _, rfl, by decide, (Or.inl (gTw_1 142 (by decide +kernel) (by decide +kernel)))⟩
theorem fk_RX1_117 : gFk RX1 117 0 6 := ⟨_, _, _, rfl, by decide, (Or.inl (gTw_2 125 (by decide +kernel) (by decide +kernel)))⟩
theorem fk_RX1_120 : gFk RX1 120 0 4 := ⟨_, _, _, rfl, by decide, (Or.inl (gTw_2 122 (by decide +kernel) (by decide +kernel)))⟩
theorem fk_RX1_123 : gFk RX1 123 0 9 := ⟨_, _, _, rfl, by decide, (Or.inl (gTw_2 130 (by decide +kernel) (by decide +kernel)))⟩
theorem fk_RX2_9 : gFk RX2 9 2 0 := ⟨_, _, _, rfl, by decide, (Or.inl (gTw_3 59 (by decide +kernel) (by decide +kernel)))⟩
theorem fk_RX2_15 : gFk RX2 15 2 1 := ⟨_, _, _, rfl, by decide, (Or.inl (gTw_3 60 (by decide +kernel) (by decide +kernel)))⟩
theorem fk_RX2_18 : gFk RX2 18 2 2 := ⟨_, _, _, rfl, by decide, (Or.inl (gTw_3 61 (by decide +kernel) (by decide +kernel)))⟩
theorem fk_RX2_22 : gFk RX2 22 2 3 := ⟨_, _, _, rfl, by decide, (Or.inl (gTw_3 63 (by decide +kernel) (by decide +kernel)))⟩
theorem fk_RX2_33 : gFk RX2 33 4 1 := ⟨_, _, _, rfl, by decide, (Or.inl (gTw_1 122 (by decide +kernel) (by decide +kernel)))⟩
theorem fk_RX2_47 : gFk RX2 47 4 3 := ⟨_, _, _, rfl, by decide, (Or.inl (gTw_1 132 (by decide +kernel) (by decide +kernel)))⟩
theorem fk_RX3_11 : gFk RX3 11 3 1 := ⟨_, _, _, rfl, by decide, (Or.inl (gTw_2 236 (by decide +kernel) (by decide +kernel)))⟩
theorem fk_RX3_15 : gFk RX3 15 3 2 := ⟨_, _, _, rfl, by decide, (Or.inl (gTw_2 237 (by decide +kernel) (by decide +kernel)))⟩
theorem fk_RX3_19 : gFk RX3 19 3 3 := ⟨_, _, _, rfl, by decide, (Or.inl (gTw_2 239 (by decide +kernel) (by decide +kernel)))⟩
theorem fk_RX3_23 : gFk RX3 23 3 0 := ⟨_, _, _, rfl, by decide, (Or.inl (gTw_2 235 (by decide +kernel) (by decide +kernel)))⟩
theorem fk_RX3_46 : gFk RX3 46 4 1 := ⟨_, _, _, rfl, by decide, (Or.inl (gTw_1 123 (by decide +kernel) (by decide +kernel)))⟩
theorem fk_RX3_70 : gFk RX3 70 4 10 := ⟨_, _, _, rfl, by decide, (Or.inl (gTw_1 163 (by decide +kernel) (by decide +kernel)))⟩
theorem fk_RX3_73 : gFk RX3 73 4 11 := ⟨_, _, _, rfl, by decide, (Or.inl (gTw_1 167 (by decide +kernel) (by decide +kernel)))⟩
theorem fk_RX3_80 : gFk RX3 80 4 12 := ⟨_, _, _, rfl, by decide, (Or.inl (gTw_1 171 (by decide +kernel) (by decide +kernel)))⟩
theorem fk_RX4_9 : gFk RX4 9 4 0 := ⟨_, _, _, rfl, by decide, (Or.inl (gTw_1 115 (by decide +kernel) (by decide +kernel)))⟩
theorem fk_RX4_29 : gFk RX4 29 4 5 := ⟨_, _, _, rfl, by decide, (Or.inl (gTw_1 143 (by decide +kernel) (by decide +kernel)))⟩
theorem fk_RX4_46 : gFk RX4 46 4 10 := ⟨_, _, _, rfl, by decide, (Or.inl (gTw_1 162 (by decide +kernel) (by decide +kernel)))⟩
theorem fk_RX4_49 : gFk RX4 49 4 11 := ⟨_, _, _, rfl, by decide, (Or.inl (gTw_1 166 (by decide +kernel) (by decide +kernel)))⟩
theorem fk_RX4_67 : gFk RX4 67 4 17 := ⟨_, _, _, rfl, by decide, (Or.inl (gTw_1 186 (by decide +kernel) (by decide +kernel)))⟩
theorem fk_RX4_70 : gFk RX4 70 4 18 := ⟨_, _, _, rfl, by decide, (Or.inl (gTw_1 191 (by decide +kernel) (by decide +kernel)))⟩
theorem fk_RX4_73 : gFk RX4 73 4 19 := ⟨_, _, _, rfl, by decide, (Or.inl (gTw_1 193 (by decide +kernel) (by decide +kernel)))⟩
theorem fk_RX4_83 : gFk RX4 83 8 10 := ⟨_, _, _, rfl, by decide, (Or.inl (gTw_1 82 (by decide +kernel) (by decide +kernel)))⟩
theorem fk_RX4_86 : gFk RX4 86 8 9 := ⟨_, _, _, rfl, by decide, (Or.inl (gTw_1 78 (by decide +kernel) (by decide +kernel)))⟩
theorem fk_RX4_89 : gFk RX4 89 8 11 := ⟨_, _, _, rfl, by decide, (Or.inl (gTw_1 85 (by decide +kernel) (by decide +kernel)))⟩
theorem fk_RX5_11 : gFk RX5 11 5 0 := ⟨_, _, _, rfl, by decide, (Or.inl (gTw_2 90 (by decide +kernel) (by decide +kernel)))⟩
theorem fk_RX5_17 : gFk RX5 17 5 1 := ⟨_, _, _, rfl, by decide, (Or.inl (gTw_2 91 (by decide +kernel) (by decide +kernel)))⟩
theorem fk_RX5_20 : gFk RX5 20 5 2 := ⟨_, _, _, rfl, by decide, (Or.inl (gTw_2 92 (by decide +kernel) (by decide +kernel)))⟩
theorem fk_RX5_24 : gFk RX5 24 5 3 := ⟨_, _, _, rfl, by decide, (Or.inl (gTw_2 93 (by decide +kernel) (by decide +kernel)))⟩
theorem fk_RX5_27 : gFk RX5 27 5 4 := ⟨_, _, _, rfl, by decide, (Or.inl (gTw_2 95 (by decide +kernel) (by decide +kernel)))⟩
theorem fk_RX6_9 : gFk RX6 9 6 0 := ⟨_, _, _, rfl, by decide, (Or.inl (gTw_3 41 (by decide +kernel) (by decide +kernel)))⟩
theorem fk_RX6_15 : gFk RX6 15 6 1 := ⟨_, _, _, rfl, by decide, (Or.inl (gTw_3 42 (by decide +kernel) (by decide +kernel)))⟩
theorem fk_RX6_18 : gFk RX6 18 6 2 := ⟨_, _, _, rfl, by decide, (Or.inl (gTw_3 44 (by decide +kernel) (by decide +kernel)))⟩
theorem fk_RX6_22 : gFk RX6 22 4 4 := ⟨_, _, _, rfl, by decide, (Or.inl (gTw_1 137 (by decide +kernel) (by decide +kernel)))⟩
theorem fk_RX6_27 : gFk RX6 27 4 0 := ⟨_, _, _, rfl, by decide, (Or.inl (gTw_1 116 (by decide +kernel) (by decide +kernel)))⟩
theorem fk_RX6_30 : gFk RX6 30 4 17 := ⟨_, _, _, rfl, by decide, (Or.inl (gTw_1 187 (by decide +kernel) (by decide +kernel)))⟩
theorem fk_RX7_9 : gFk RX7 9 7 0 := ⟨_, _, _, rfl, by decide, (Or.inl (gTw_3 16 (by decide +kernel) (by decide +kernel)))⟩
theorem fk_RX7_15 : gFk RX7 15 7 1 := ⟨_, _, _, rfl, by decide, (Or.inl (gTw_3 17 (by decide +kernel) (by decide +kernel)))⟩
theorem fk_RX7_19 : gFk RX7 19 7 2 := ⟨_, _, _, rfl, by decide, (Or.inl (gTw_3 18 (by decide +kernel) (by decide +kernel)))⟩
theorem fk_RX7_22 : gFk RX7 22 7 3 := ⟨_, _, _, rfl, by decide, (Or.inl (gTw_3 19 (by decide +kernel) (by decide +kernel)))⟩
theorem fk_RX7_25 : gFk RX7 25 7 4 := ⟨_, _, _, rfl, by decide, (Or.inl (gTw_3 20 (by decide +kernel) (by decide +kernel)))⟩
theorem fk_RX7_28 : gFk RX7 28 7 5 := ⟨_, _, _, rfl, by decide, (Or.inl (gTw_3 21 (by decide +kernel) (by decide +kernel)))⟩
theorem fk_RX7_31 : gFk RX7 31 4 1 := ⟨_, _, _, rfl, by decide, (Or.inl (gTw_1 121 (by decide +kernel) (by decide +kernel)))⟩
theorem fk_RX7_34 : gFk RX7 34 4 4 := ⟨_, _, _, rfl, by decide, (Or.inl (gTw_1 138 (by decide +kernel) (by decide +kernel)))⟩
theorem fk_RX7_41 : gFk RX7 41 4 17 := ⟨_, _, _, rfl, by decide, (Or.inl (gTw_1 188 (by decide +kernel) (by decide +kernel)))⟩
theorem fk_RX7_44 : gFk RX7 44 4 5 := ⟨_, _, _, rfl, by decide, (Or.inl (gTw_1 145 (by decide +kernel) (by decide +kernel)))⟩
theorem fk_RX8_24 : gFk RX8 24 8 4 := ⟨_, _, _, rfl, by decide, (Or.inl (gTw_1 58 (by decide +kernel) (by decide +kernel)))⟩
theorem fk_RX8_27 : gFk RX8 27 8 5 := ⟨_, _, _, rfl, by decide, (Or.inl (gTw_1 62 (by decide +kernel) (by decide +kernel)))⟩
theorem fk_RX9_9 : gFk RX9 9 9 1 := ⟨_, _, _, rfl, by decide, (Or.inl (gTw_2 3 (by decide +kernel) (by decide +kernel)))⟩
theorem fk_RX9_15 : gFk RX9 15 9 2 := ⟨_, _, _, rfl, by decide, (Or.inl (gTw_2 4 (by decide +kernel) (by decide +kernel)))⟩
theorem fk_RX9_18 : gFk RX9 18 9 3 := ⟨_, _, _, rfl, by decide, (Or.inl (gTw_2 5 (by decide +kernel) (by decide +kernel)))⟩
theorem fk_RX9_21 : gFk RX9 21 9 4 := ⟨_, _, _, rfl, by decide, (Or.inl (gTw_2 6 (by decide +kernel) (by decide +kernel)))⟩
theorem fk_RX9_24 : gFk RX9 24 9 5 := ⟨_, _, _, rfl, by decide, (Or.inl (gTw_2 7 (by decide +kernel) (by decide +kernel)))⟩
theorem fk_RX9_27 : gFk RX9 27 9 6 := ⟨_, _, _, rfl, by decide, (Or.inl (gTw_2 8 (by decide +kernel) (by decide +kernel)))⟩
theorem fk_RX9_30 : gFk RX9 30 9 7 := ⟨_, _, _, rfl, by decide, (Or.inl (gTw_2 9 (by decide +kernel) (by decide +kernel)))⟩
theorem fk_RX9_39 : gFk RX9 39 9 0 := ⟨_, _, _, rfl, by decide, (Or.inl (gTw_2 2 (by decide +kernel) (by decide +kernel)))⟩
theorem fk_RX9_43 : gFk RX9 43 9 8 := ⟨_, _, _, rfl, by decide, (Or.inl (gTw_2 10 (by decide +kernel) (by decide +kernel)))⟩
theorem fk_RX9_65 : gFk RX9 65 4 4 := ⟨_, _, _, rfl, by decide, (Or.inl (gTw_1 139 (by decide +kernel) (by decide +kernel)))⟩
theorem fk_RX9_108 : gFk RX9 108 4 0 := ⟨_, _, _, rfl, by decide, (Or.inl (gTw_1 118 (by decide +kernel) (by decide +kernel)))⟩
theorem fk_RX9_117 : gFk RX9 117 4 5 := ⟨_, _, _, rfl, by decide, (Or.inl (gTw_1 148 (by decide +kernel) (by decide +kernel)))⟩
theorem fk_RX9_127 : gFk RX9 127 4 6 := ⟨_, _, _, rfl, by decide, (Or.inl (gTw_1 151 (by decide +kernel) (by decide +kernel)))⟩
theorem fk_RX9_132 : gFk RX9 132 4 10 := ⟨_, _, _, rfl, by decide, (Or.inl (gTw_1 164 (by decide +kernel) (by decide +kernel)))⟩
theorem fk_RX9_138 : gFk RX9 138 4 13 := ⟨_, _, _, rfl, by decide, (Or.inl (gTw_1 175 (by decide +kernel) (by decide +kernel)))⟩
theorem fk_RX9_147 : gFk RX9 147 8 1 := ⟨_, _, _, rfl, by decide, (Or.inl (gTw_1 51 (by decide +kernel) (by decide +kernel)))⟩
theorem fk_RX9_152 : gFk RX9 152 8 0 := ⟨_, _, _, rfl, by decide, (Or.inl (gTw_1 49 (by decide +kernel) (by decide +kernel)))⟩
theorem fk_RX9_168 : gFk RX9 168 4 1 := ⟨_, _, _, rfl, by decide, (Or.inl (gTw_1 127 (by decide +kernel) (by decide +kernel)))⟩
theorem fk_RX9_172 : gFk RX9 172 4 2 := ⟨_, _, _, rfl, by decide, (Or.inl (gTw_1 129 (by decide +kernel) (by decide +kernel)))⟩
theorem fk_RX9_208 : gFk RX9 208 8 9 := ⟨_, _, _, rfl, by decide, (Or.inl (gTw_1 80 (by decide +kernel) (by decide +kernel)))⟩
theorem fk_RX9_223 : gFk RX9 223 8 2 := ⟨_, _, _, rfl, by decide, (Or.inl (gTw_1 54 (by decide +kernel) (by decide +kernel)))⟩
theorem fk_RX9_234 : gFk RX9 234 8 3 := ⟨_, _, _, rfl, by decide, (Or.inl (gTw_1 57 (by decide +kernel) (by decide +kernel)))⟩
theorem fk_RX9_239 : gFk RX9 239 8 8 := ⟨_, _, _, rfl, by decide, (Or.inl (gTw_1 76 (by decide +kernel) (by decide +kernel)))⟩
theorem fk_RX9_244 : gFk RX9 244 8 4 := ⟨_, _, _, rfl, by decide, (Or.inl (gTw_1 61 (by decide +kernel) (by decide +kernel)))⟩
theorem fk_RX9_249 : gFk RX9 249 8 5 := ⟨_, _, _, rfl, by decide, (Or.inl (gTw_1 65 (by decide +kernel) (by decide +kernel)))⟩
theorem fk_RX9_255 : gFk RX9 255 8 11 := ⟨_, _, _, rfl, by decide, (Or.inl (gTw_1 87 (by decide +kernel) (by decide +kernel)))⟩
theorem fk_RX9_264 : gFk RX9 264 4 7 := ⟨_, _, _, rfl, by decide, (Or.inl (gTw_1 155 (by decide +kernel) (by decide +kernel)))⟩
theorem fk_RX9_267 : gFk RX9 267 4 8 := ⟨_, _, _, rfl, by decide, (Or.inl (gTw_1 158 (by decide +kernel) (by decide +kernel)))⟩
theorem fk_RX9_270 : gFk RX9 270 4 9 := ⟨_, _, _, rfl, by decide, (Or.inl (gTw_1 161 (by decide +kernel) (by decide +kernel)))⟩
theorem fk_RX9_273 : gFk RX9 273 4 11 := ⟨_, _, _, rfl, by decide, (Or.inl (gTw_1 169 (by decide +kernel) (by decide +kernel)))⟩
theorem fk_RX9_276 : gFk RX9 276 4 12 := ⟨_, _, _, rfl, by decide, (Or.inl (gTw_1 173 (by decide +kernel) (by decide +kernel)))⟩
theorem fk_RX9_278 : gFk RX9 278 4 14 := ⟨_, _, _, rfl, by decide, (Or.inl (gTw_1 178 (by decide +kernel) (by decide +kernel)))⟩
theorem fk_RX9_281 : gFk RX9 281 4 15 := ⟨_, _, _, rfl, by decide, (Or.inl (gTw_1 181 (by decide +kernel) (by decide +kernel)))⟩
theorem fk_RX9_284 : gFk RX9 284 4 16 := ⟨_, _, _, rfl, by decide, (Or.inl (gTw_1 184 (by decide +kernel) (by decide +kernel)))⟩
theorem fk_RX10_9 : gFk RX10 9 10 0 := ⟨_, _, _, rfl, by decide, (Or.inl (gTw_2 44 (by decide +kernel) (by decide +kernel)))⟩
theorem fk_RX10_15 : gFk RX10 15 10 1 := ⟨_, _, _, rfl, by decide, (Or.inl (gTw_2 47 (by decide +kernel) (by decide +kernel)))⟩
theorem fk_RX10_18 : gFk RX10 18 10 2 := ⟨_, _, _, rfl, by decide, (Or.inl (gTw_2 50 (by decide +kernel) (by decide +kernel)))⟩
theorem fk_RX10_21 : gFk RX10 21 10 3 := ⟨_, _, _, rfl, by decide, (Or.inl (gTw_2 53 (by decide +kernel) (by decide +kernel)))⟩
theorem fk_RX10_25 : gFk RX10 25 10 4 := ⟨_, _, _, rfl, by decide, (Or.inl (gTw_2 56 (by decide +kernel) (by decide +kernel)))⟩
theorem fk_RX10_28 : gFk RX10 28 10 5 := ⟨_, _, _, rfl, by decide, (Or.inl (gTw_2 58 (by decide +kernel) (by decide +kernel)))⟩
theorem fk_RX10_31 : gFk RX10 31 10 6 := ⟨_, _, _, rfl, by decide, (Or.inl (gTw_2 60 (by decide +kernel) (by decide +kernel)))⟩
theorem fk_RX10_34 : gFk RX10 34 10 7 := ⟨_, _, _, rfl, by decide, (Or.inl (gTw_2 62 (by decide +kernel) (by decide +kernel)))⟩
theorem fk_RX10_37 : gFk RX10 37 4 4 := ⟨_, _, _, rfl, by decide, (Or.inl (gTw_1 136 (by decide +kernel) (by decide +kernel)))⟩
theorem fk_RX10_42 : gFk RX10 42 4 5 := ⟨_, _, _, rfl, by decide, (Or.inl (gTw_1 144 (by decide +kernel) (by decide +kernel)))⟩
theorem fk_RX10_46 : gFk RX10 46 8 2 := ⟨_, _, _, rfl, by decide, (Or.inl (gTw_1 53 (by decide +kernel) (by decide +kernel)))⟩
theorem fk_RX10_50 : gFk RX10 50 8 3 := ⟨_, _, _, rfl, by decide, (Or.inl (gTw_1 56 (by decide +kernel) (by decide +kernel)))⟩
theorem fk_RX10_52 : gFk RX10 52 8 6 := ⟨_, _, _, rfl, by decide, (Or.inl (gTw_1 67 (by decide +kernel) (by decide +kernel)))⟩
theorem fk_RX13_9 : gFk RX13 9 13 2 := ⟨_, _, _, rfl, by decide, (Or.inl (gTw_6 204 (by decide +kernel) (by decide +kernel)))⟩
theorem fk_RX13_13 : gFk RX13 13 13 5 := ⟨_, _, _, rfl, by decide, (Or.inl (gTw_6 207 (by decide +kernel) (by decide +kernel)))⟩
theorem fk_RX13_17 : gFk RX13 17 13 16 := ⟨_, _, _, rfl, by decide, (Or.inl (gTw_6 218 (by decide +kernel) (by decide +kernel)))⟩
theorem fk_RX13_21 : gFk RX13 21 13 18 := ⟨_, _, _, rfl, by decide, (Or.inl (gTw_6 220 (by decide +kernel) (by decide +kernel)))⟩
theorem fk_RX13_24 : gFk RX13 24 13 19 := ⟨_, _, _, rfl, by decide, (Or.inl (gTw_6 221 (by decide +kernel) (by decide +kernel)))⟩
theorem fk_RX13_27 : gFk RX13 27 13 20 := ⟨_, _, _, rfl, by decide, (Or.inl (gTw_6 222 (by decide +kernel) (by decide +kernel)))⟩
theorem fk_RX13_30 : gFk RX13 30 13 23 := ⟨_, _, _, rfl, by decide, (Or.inl (gTw_6 225 (by decide +kernel) (by decide +kernel)))⟩
theorem fk_RX13_33 : gFk RX13 33 13 24 := ⟨_, _, _, rfl, by decide, (Or.inl (gTw_6 226 (by decide +kernel) (by decide +kernel)))⟩
theorem fk_RX13_36 : gFk RX13 36 13 25 := ⟨_, _, _, rfl, by decide, (Or.inl (gTw_6 227 (by decide +kernel) (by decide +kernel)))⟩
theorem fk_RX13_39 : gFk RX13 39 13 26 := ⟨_, _, _, rfl, by decide, (Or.inl (gTw_6 228 (by decide +kernel) (by decide +kernel)))⟩
theorem fk_RX13_42 : gFk RX13 42 13 27 := ⟨_, _, _, rfl, by decide, (Or.inl (gTw_6 229 (by decide +kernel) (by decide +kernel)))⟩
theorem fk_RX13_45 : gFk RX13 45 13 28 := ⟨_, _, _, rfl, by decide, (Or.inl (gTw_6 230 (by decide +kernel) (by decide +kernel)))⟩
theorem fk_RX13_48 : gFk RX13 48 13 29 := ⟨_, _, _, rfl, by decide, (Or.inl (gTw_6 231 (by decide +kernel) (by decide +kernel)))⟩
theorem fk_RX13_51 : gFk RX13 51 13 30 := ⟨_, _, _, rfl, by decide, (Or.inl (gTw_6 232 (by decide +kernel) (by decide +kernel)))⟩
theorem fk_RX13_54 : gFk RX13 54 13 31 := ⟨_, _, _, rfl, by decide, (Or.inl (gTw_6 233 (by decide +kernel) (by decide +kernel)))⟩
theorem fk_RX13_57 : gFk RX13 57 13 32 := ⟨_, _, _, rfl, by decide, (Or.inl (gTw_6 234 (by decide +kernel) (by decide +kernel)))⟩
theorem fk_RX13_60 : gFk RX13 60 13 33 := ⟨_, _, _, rfl, by decide, (Or.inl (gTw_6 235 (by decide +kernel) (by decide +kernel)))⟩
theorem fk_RX13_63 : gFk RX13 63 13 34 := ⟨_, _, _, rfl, by decide, (Or.inl (gTw_6 236 (by decide +kernel) (by decide +kernel)))⟩
theorem fk_RX13_66 : gFk RX13 66 13 41 := ⟨_, _, _, rfl, by decide, (Or.inl (gTw_7 3 (by decide +kernel) (by decide +kernel)))⟩
theorem fk_RX13_69 : gFk RX13 69 13 45 := ⟨_, _, _, rfl, by decide, (Or.inl (gTw_7 7 (by decide +kernel) (by decide +kernel)))⟩
theorem fk_RX13_72 : gFk RX13 72 13 46 := ⟨_, _, _, rfl, by decide, (Or.inl (gTw_7 8 (by decide +kernel) (by decide +kernel)))⟩
theorem fk_RX13_75 : gFk RX13 75 13 47 := ⟨_, _, _, rfl, by decide, (Or.inl (gTw_7 9 (by decide +kernel) (by decide +kernel)))⟩
theorem fk_RX13_81 : gFk RX13 81 13 50 := ⟨_, _, _, rfl, by decide, (Or.inl (gTw_7 12 (by decide +kernel) (by decide +kernel)))⟩
theorem fk_RX13_85 : gFk RX13 85 13 51 := ⟨_, _, _, rfl, by decide, (Or.inl (gTw_7 13 (by decide +kernel) (by decide +kernel)))⟩
theorem fk_RX13_88 : gFk RX13 88 13 0 := ⟨_, _, _, rfl, by decide, (Or.inl (gTw_6 202 (by decide +kernel) (by decide +kernel)))⟩
theorem fk_RX13_91 : gFk RX13 91 13 1 := ⟨_, _, _, rfl, by decide, (Or.inl (gTw_6 203 (by decide +kernel) (by decide +kernel)))⟩
theorem fk_RX13_101 : gFk RX13 101 13 7 := ⟨_, _, _, rfl, by decide, (Or.inl (gTw_6 209 (by decide +kernel) (by decide +kernel)))⟩
theorem fk_RX13_116 : gFk RX13 116 13 9 := ⟨_, _, _, rfl, by decide, (Or.inl (gTw_6 211 (by decide +kernel) (by decide +kernel)))⟩
theorem fk_RX13_119 : gFk RX13 119 13 8 := ⟨_, _, _, rfl, by decide, (Or.inl (gTw_6 210 (by decide +kernel) (by decide +kernel)))⟩
theorem fk_RX13_125 : gFk RX13 125 13 10 := ⟨_, _, _, rfl, by decide, (Or.inl (gTw_6 212 (by decide +kernel) (by decide +kernel)))⟩
theorem fk_RX13_128 : gFk RX13 128 13 11 := ⟨_, _, _, rfl, by decide, (Or.inl (gTw_6 213 (by decide +kernel) (by decide +kernel)))⟩
theorem fk_RX13_135 : gFk RX13 135 13 17 := ⟨_, _, _, rfl, by decide, (Or.inl (gTw_6 219 (by decide +kernel) (by decide +kernel)))⟩
theorem fk_RX13_139 : gFk RX13 139 13 13 := ⟨_, _, _, rfl, by decide, (Or.inl (gTw_6 215 (by decide +kernel) (by decide +kernel)))⟩
theorem fk_RX13_145 : gFk RX13 145 13 12 := ⟨_, _, _, rfl, by decide, (Or.inl (gTw_6 214 (by decide +kernel) (by decide +kernel)))⟩
theorem fk_RX13_148 : gFk RX13 148 13 14 := ⟨_, _, _, rfl, by decide, (Or.inl (gTw_6 216 (by decide +kernel) (by decide +kernel)))⟩
theorem fk_RX13_151 : gFk RX13 151 13 15 := ⟨_, _, _, rfl, by decide, (Or.inl (gTw_6 217 (by decide +kernel) (by decide +kernel)))⟩
theorem fk_RX13_196 : gFk RX13 196 13 4 := ⟨_, _, _, rfl, by decide, (Or.inl (gTw_6 206 (by decide +kernel) (by decide +kernel)))⟩
theorem fk_RX13_200 : gFk RX13 200 12 0 := ⟨_, _, _, rfl, by decide, (Or.inr ⟨"BrushGlassModel", by decide +kernel⟩)⟩
theorem fk_RX13_219 : gFk RX13 219 12 4 := ⟨_, _, _, rfl, by decide, (Or.inr ⟨"BrushGlassModel", by decide +kernel⟩)⟩
theorem fk_RX13_251 : gFk RX13 251 12 1 := ⟨_, _, _, rfl, by decide, (Or.inr ⟨"BrushGlassModel", by decide +kernel⟩)⟩
theorem fk_RX13_253 : gFk RX13 253 12 2 := ⟨_, _, _, rfl, by decide, (Or.inr ⟨"BrushGlassModel", by decide +kernel⟩)⟩
theorem fk_RX13_255 : gFk RX13 255 12 3 := ⟨_, _, _, rfl, by decide, (Or.inr ⟨"BrushGlassModel", by decide +kernel⟩)⟩
theorem fk_RX13_278 : gFk RX13 278 12 12 := ⟨_, _, _, rfl, by decide, (Or.inr ⟨"BrushGlassModel", by decide +kernel⟩)⟩
theorem fk_RX13_290 : gFk RX13 290 12 8 := ⟨_, _, _, rfl, by decide, (Or.inr ⟨"BrushGlassModel", by decide +kernel⟩)⟩
theorem fk_RX13_293 : gFk RX13 293 12 9 := ⟨_, _, _, rfl, by decide, (Or.inr ⟨"BrushGlassModel", by decide +kernel⟩)⟩
theorem fk_RX13_296 : gFk RX13 296 12 10 := ⟨_, _, _, rfl, by decide, (Or.inr ⟨"BrushGlassModel", by decide +kernel⟩)⟩
theorem fk_RX13_299 : gFk RX13 299 12 11 := ⟨_, _, _, rfl, by decide, (Or.inr ⟨"BrushGlassModel", by decide +kernel⟩)⟩
theorem fk_RX13_302 : gFk RX13 302 12 13 := ⟨_, _, _, rfl, by decide, (Or.inr ⟨"BrushGlassModel", by decide +kernel⟩)⟩
theorem fk_RX13_304 : gFk RX13 304 12 14 := ⟨_, _, _, rfl, by decide, (Or.inr ⟨"BrushGlassModel", by decide +kernel⟩)⟩
theorem fk_RX13_306 : gFk RX13 306 12 18 := ⟨_, _, _, rfl, by decide, (Or.inr ⟨"BrushGlassModel", by decide +kernel⟩)⟩
theorem fk_RX13_312 : gFk RX13 312 12 15 := ⟨_, _, _, rfl, by decide, (Or.inr ⟨"BrushGlassModel", by decide +kernel⟩)⟩
theorem fk_RX13_315 : gFk RX13 315 12 17 := ⟨_, _, _, rfl, by decide, (Or.inr ⟨"BrushGlassModel", by decide +kernel⟩)⟩
theorem fk_RX13_319 : gFk RX13 319 12 16 := ⟨_, _, _, rfl, by decide, (Or.inr ⟨"BrushGlassModel", by decide +kernel⟩)⟩
theorem fk_RX13_322 : gFk RX13 322 12 5 := ⟨_, _, _, rfl, by decide, (Or.inr ⟨"BrushGlassModel", by decide +kernel⟩)⟩
theorem fk_RX13_327 : gFk RX13 327 12 19 := ⟨_, _, _, rfl, by decide, (Or.inr ⟨"BrushGlassModel", by decide +kernel⟩)⟩
theorem fk_RX13_330 : gFk RX13 330 12 20 := ⟨_, _, _, rfl, by decide, (Or.inr ⟨"BrushGlassModel", by decide +kernel⟩)⟩
theorem fk_RX13_333 : gFk RX13 333 12 21 := ⟨_, _, _, rfl, by decide, (Or.inr ⟨"BrushGlassModel", by decide +kernel⟩)⟩
theorem fk_RX13_336 : gFk RX13 336 12 6 := ⟨_, _, _, rfl, by decide, (Or.inr ⟨"BrushGlassModel", by decide +kernel⟩)⟩
theorem fk_RX13_339 : gFk RX13 339 12 23 := ⟨_, _, _, rfl, by decide, (Or.inr ⟨"BrushGlassModel", by decide +kernel⟩)⟩
theorem fk_RX13_341 : gFk RX13 341 12 22 := ⟨_, _, _, rfl, by decide, (Or.inr ⟨"BrushGlassModel", by decide +kernel⟩)⟩
theorem fk_RX13_344 : gFk RX13 344 12 7 := ⟨_, _, _, rfl, by decide, (Or.inr ⟨"BrushGlassModel", by decide +kernel⟩)⟩
theorem fk_RX13_347 : gFk RX13 347 12 24 := ⟨_, _, _, rfl, by decide, (Or.inr ⟨"BrushGlassModel", by decide +kernel⟩)⟩
theorem fk_RX13_350 : gFk RX13 350 12 25 := ⟨_, _, _, rfl, by decide, (Or.inr ⟨"BrushGlassModel", by decide +kernel⟩)⟩
theorem fk_RX13_353 : gFk RX13 353 12 26 := ⟨_, _, _, rfl, by decide, (Or.inr ⟨"BrushGlassModel", by decide +kernel⟩)⟩
theorem fk_RX13_356 : gFk RX13 356 13 6 := ⟨_, _, _, rfl, by decide, (Or.inl (gTw_6 208 (by decide +kernel) (by decide +kernel)))⟩
theorem fk_RX13_363 : gFk RX13 363 13 3 := ⟨_, _, _, rfl, by decide, (Or.inl (gTw_6 205 (by decide +kernel) (by decide +kernel)))⟩
theorem fk_RX13_365 : gFk RX13 365 13 21 := ⟨_, _, _, rfl, by decide, (Or.inl (gTw_6 223 (by decide +kernel) (by decide +kernel)))⟩
theorem fk_RX13_368 : gFk RX13 368 13 22 := ⟨_, _, _, rfl, by decide, (Or.inl (gTw_6 224 (by decide +kernel) (by decide +kernel)))⟩
theorem fk_RX13_371 : gFk RX13 371 13 40 := ⟨_, _, _, rfl, by decide, (Or.inl (gTw_7 2 (by decide +kernel) (by decide +kernel)))⟩
theorem fk_RX13_374 : gFk RX13 374 13 39 := ⟨_, _, _, rfl, by decide, (Or.inl (gTw_7 1 (by decide +kernel) (by decide +kernel)))⟩
theorem fk_RX13_377 : gFk RX13 377 13 36 := ⟨_, _, _, rfl, by decide, (Or.inl (gTw_6 238 (by decide +kernel) (by decide +kernel)))⟩
theorem fk_RX13_383 : gFk RX13 383 13 35 := ⟨_, _, _, rfl, by decide, (Or.inl (gTw_6 237 (by decide +kernel) (by decide +kernel)))⟩
theorem fk_RX13_404 : gFk RX13 404 13 37 := ⟨_, _, _, rfl, by decide, (Or.inl (gTw_6 239 (by decide +kernel) (by decide +kernel)))⟩
theorem fk_RX13_407 : gFk RX13 407 13 38 := ⟨_, _, _, rfl, by decide, (Or.inl (gTw_7 0 (by decide +kernel) (by decide +kernel)))⟩
theorem fk_RX13_507 : gFk RX13 507 13 42 := ⟨_, _, _, rfl, by decide, (Or.inl (gTw_7 4 (by decide +kernel) (by decide +kernel)))⟩
theorem fk_RX13_510 : gFk RX13 510 13 43 := ⟨_, _, _, rfl, by decide, (Or.inl (gTw_7 5 (by decide +kernel) (by decide +kernel)))⟩
theorem fk_RX13_513 : gFk RX13 513 13 44 := ⟨_, _, _, rfl, by decide, (Or.inl (gTw_7 6 (by decide +kernel) (by decide +kernel)))⟩
theorem fk_RX13_525 : gFk RX13 525 13 49 := ⟨_, _, _, rfl, by decide, (Or.inl (gTw_7 11 (by decide +kernel) (by decide +kernel)))⟩
theorem fk_RX12_9 : gFk RX12 9 12 8 := ⟨_, _, _, rfl, by decide, (Or.inl (gTw_7 150 (by decide +kernel) (by decide +kernel)))⟩
theorem fk_RX12_34 : gFk RX12 34 12 15 := ⟨_, _, _, rfl, by decide, (Or.inl (gTw_7 164 (by decide +kernel) (by decide +kernel)))⟩
theorem fk_RX12_37 : gFk RX12 37 12 16 := ⟨_, _, _, rfl, by decide, (Or.inl (gTw_7 166 (by decide +kernel) (by decide +kernel)))⟩
theorem fk_RX12_40 : gFk RX12 40 12 17 := ⟨_, _, _, rfl, by decide, (Or.inl (gTw_7 168 (by decide +kernel) (by decide +kernel)))⟩
theorem fk_RX12_71 : gFk RX12 71 12 4 := ⟨_, _, _, rfl, by decide, (Or.inl (gTw_7 145 (by decide +kernel) (by decide +kernel)))⟩
theorem pk_RX11_9_t : gPk true RX11 9 11 0 (.array .byte) := ⟨_, _, _, rfl, by decide, by decide +kernel, Or.inr ⟨rfl, rfl, rfl, (gTw_3 75 (by decide +kernel) (by decide +kernel))⟩⟩
theorem pk_RX11_13_f : gPk false RX11 13 11 1 .int := ⟨_, _, _, rfl, by decide, by decide +kernel, Or.inl ⟨rfl, (Or.inl (gTw_3 76 (by decide +kernel) (by decide +kernel)))⟩⟩
theorem pk_RX11_13_t : gPk true RX11 13 11 1 .int := ⟨_, _, _, rfl, by decide, by decide +kernel, Or.inl ⟨rfl, (Or.inl (gTw_3 76 (by decide +kernel) (by decide +kernel)))⟩⟩
theorem pk_RX11_20_f : gPk false RX11 20 11 2 (.object "BrushGlass$Glass") := ⟨_, _, _, rfl, by decide, by decide +kernel, Or.inl ⟨rfl, (Or.inl (gTw_3 77 (by decide +kernel) (by decide +kernel)))⟩⟩
theorem pk_RX11_20_t : gPk true RX11 20 11 2 (.object "BrushGlass$Glass") := ⟨_, _, _, rfl, by decide, by decide +kernel, Or.inl ⟨rfl, (Or.inl (gTw_3 77 (by decide +kernel) (by decide +kernel)))⟩⟩
theorem pk_RX11_24_f : gPk false RX11 24 11 3 (.object "BrushGlass$Glass") := ⟨_, _, _, rfl, by decide, by decide +kernel, Or.inl ⟨rfl, (Or.inl (gTw_3 78 (by decide +kernel) (by decide +kernel)))⟩⟩
theorem pk_RX11_24_t : gPk true RX11 24 11 3 (.object "BrushGlass$Glass") := ⟨_, _, _, rfl, by decide, by decide +kernel, Or.inl ⟨rfl, (Or.inl (gTw_3 78 (by decide +kernel) (by decide +kernel)))⟩⟩
theorem pk_RX11_32_t : gPk true RX11 32 11 4 (.object "BrushGlass$Reader") := ⟨_, _, _, rfl, by decide, by decide +kernel, Or.inr ⟨rfl, rfl, rfl, (gTw_3 79 (by decide +kernel) (by decide +kernel))⟩⟩
theorem pk_RX11_39_t : gPk true RX11 39 11 5 (.object "BrushGlass$Ways") := ⟨_, _, _, rfl, by decide, by decide +kernel, Or.inr ⟨rfl, rfl, rfl, (gTw_3 80 (by decide +kernel) (by decide +kernel))⟩⟩
theorem pk_RX11_43_t : gPk true RX11 43 11 6 (.object "BrushGlass$Ways") := ⟨_, _, _, rfl, by decide, by decide +kernel, Or.inr ⟨rfl, rfl, rfl, (gTw_3 81 (by decide +kernel) (by decide +kernel))⟩⟩
theorem pk_RX11_49_t : gPk true RX11 49 11 7 (.object "BrushGlass$Memory") := ⟨_, _, _, rfl, by decide, by decide +kernel, Or.inr ⟨rfl, rfl, rfl, (gTw_3 82 (by decide +kernel) (by decide +kernel))⟩⟩
theorem pk_RX11_63_t : gPk true RX11 63 11 8 (.object "BrushGlass$Diary") := ⟨_, _, _, rfl, by decide, by decide +kernel, Or.inr ⟨rfl, rfl, rfl, (gTw_3 83 (by decide +kernel) (by decide +kernel))⟩⟩
theorem pk_RX11_67_t : gPk true RX11 67 11 9 (.object "BrushGlass$Diary") := ⟨_, _, _, rfl, by decide, by decide +kernel, Or.inr ⟨rfl, rfl, rfl, (gTw_3 84 (by decide +kernel) (by decide +kernel))⟩⟩
theorem pk_RX11_73_t : gPk true RX11 73 11 10 (.object "BrushGlass$Explanations") := ⟨_, _, _, rfl, by decide, by decide +kernel, Or.inr ⟨rfl, rfl, rfl, (gTw_3 85 (by decide +kernel) (by decide +kernel))⟩⟩
theorem pk_RX11_80_t : gPk true RX11 80 11 11 (.object "BrushGlass$Pairings") := ⟨_, _, _, rfl, by decide, by decide +kernel, Or.inr ⟨rfl, rfl, rfl, (gTw_3 86 (by decide +kernel) (by decide +kernel))⟩⟩
theorem pk_RX11_87_t : gPk true RX11 87 11 12 (.object "BrushGlass$Painting") := ⟨_, _, _, rfl, by decide, by decide +kernel, Or.inr ⟨rfl, rfl, rfl, (gTw_3 87 (by decide +kernel) (by decide +kernel))⟩⟩
theorem pk_RX11_94_t : gPk true RX11 94 11 13 (.object "BrushGlass$Drift") := ⟨_, _, _, rfl, by decide, by decide +kernel, Or.inr ⟨rfl, rfl, rfl, (gTw_3 88 (by decide +kernel) (by decide +kernel))⟩⟩
theorem pk_RX11_98_f : gPk false RX11 98 11 14 .boolean := ⟨_, _, _, rfl, by decide, by decide +kernel, Or.inl ⟨rfl, (Or.inl (gTw_3 89 (by decide +kernel) (by decide +kernel)))⟩⟩
theorem pk_RX11_98_t : gPk true RX11 98 11 14 .boolean := ⟨_, _, _, rfl, by decide, by decide +kernel, Or.inl ⟨rfl, (Or.inl (gTw_3 89 (by decide +kernel) (by decide +kernel)))⟩⟩
theorem pk_RX11_102_f : gPk false RX11 102 11 15 .int := ⟨_, _, _, rfl, by decide, by decide +kernel, Or.inl ⟨rfl, (Or.inl (gTw_3 90 (by decide +kernel) (by decide +kernel)))⟩⟩
theorem pk_RX11_102_t : gPk true RX11 102 11 15 .int := ⟨_, _, _, rfl, by decide, by decide +kernel, Or.inl ⟨rfl, (Or.inl (gTw_3 90 (by decide +kernel) (by decide +kernel)))⟩⟩
theorem pk_RX11_371_f : gPk false RX11 371 10 7 .int := ⟨_, _, _, rfl, by decide, by decide +kernel, Or.inl ⟨rfl, (Or.inl (gTw_2 63 (by decide +kernel) (by decide +kernel)))⟩⟩
theorem pk_RX11_405_f : gPk false RX11 405 3 3 .boolean := ⟨_, _, _, rfl, by decide, by decide +kernel, Or.inl ⟨rfl, (Or.inl (gTw_3 0 (by decide +kernel) (by decide +kernel)))⟩⟩
theorem pk_RX0_9_t : gPk true RX0 9 0 2 (.array .int) := ⟨_, _, _, rfl, by decide, by decide +kernel, Or.inr ⟨rfl, rfl, rfl, (gTw_2 118 (by decide +kernel) (by decide +kernel))⟩⟩
theorem pk_RX0_15_t : gPk true RX0 15 0 3 (.array .int) := ⟨_, _, _, rfl, by decide, by decide +kernel, Or.inr ⟨rfl, rfl, rfl, (gTw_2 120 (by decide +kernel) (by decide +kernel))⟩⟩
theorem pk_RX0_18_t : gPk true RX0 18 0 4 (.array .int) := ⟨_, _, _, rfl, by decide, by decide +kernel, Or.inr ⟨rfl, rfl, rfl, (gTw_2 121 (by decide +kernel) (by decide +kernel))⟩⟩
theorem pk_RX0_21_t : gPk true RX0 21 0 5 (.array .int) := ⟨_, _, _, rfl, by decide, by decide +kernel, Or.inr ⟨rfl, rfl, rfl, (gTw_2 123 (by decide +kernel) (by decide +kernel))⟩⟩
theorem pk_RX0_24_t : gPk true RX0 24 0 6 (.array .int) := ⟨_, _, _, rfl, by decide, by decide +kernel, Or.inr ⟨rfl, rfl, rfl, (gTw_2 124 (by decide +kernel) (by decide +kernel))⟩⟩
theorem pk_RX0_27_t : gPk true RX0 27 0 7 (.array .int) := ⟨_, _, _, rfl, by decide, by decide +kernel, Or.inr ⟨rfl, rfl, rfl, (gTw_2 126 (by decide +kernel) (by decide +kernel))⟩⟩
theorem pk_RX0_30_f : gPk false RX0 30 0 8 .int := ⟨_, _, _, rfl, by decide, by decide +kernel, Or.inl ⟨rfl, (Or.inl (gTw_2 127 (by decide +kernel) (by decide +kernel)))⟩⟩
theorem pk_RX0_30_t : gPk true RX0 30 0 8 .int := ⟨_, _, _, rfl, by decide, by decide +kernel, Or.inl ⟨rfl, (Or.inl (gTw_2 127 (by decide +kernel) (by decide +kernel)))⟩⟩
theorem pk_RX0_34_t : gPk true RX0 34 0 9 (.array .int) := ⟨_, _, _, rfl, by decide, by decide +kernel, Or.inr ⟨rfl, rfl, rfl, (gTw_2 129 (by decide +kernel) (by decide +kernel))⟩⟩
theorem pk_RX0_37_t : gPk true RX0 37 0 10 (.array .int) := ⟨_, _, _, rfl, by decide, by decide +kernel, Or.inr ⟨rfl, rfl, rfl, (gTw_2 132 (by decide +kernel) (by decide +kernel))⟩⟩
theorem pk_RX0_40_t : gPk true RX0 40 0 11 (.array .int) := ⟨_, _, _, rfl, by decide, by decide +kernel, Or.inr ⟨rfl, rfl, rfl, (gTw_2 135 (by decide +kernel) (by decide +kernel))⟩⟩
theorem pk_RX0_43_t : gPk true RX0 43 0 12 (.array .int) := ⟨_, _, _, rfl, by decide, by decide +kernel, Or.inr ⟨rfl, rfl, rfl, (gTw_2 137 (by decide +kernel) (by decide +kernel))⟩⟩
theorem pk_RX0_46_t : gPk true RX0 46 0 13 (.array .int) := ⟨_, _, _, rfl, by decide, by decide +kernel, Or.inr ⟨rfl, rfl, rfl, (gTw_2 139 (by decide +kernel) (by decide +kernel))⟩⟩
theorem pk_RX0_49_t : gPk true RX0 49 0 14 (.array .int) := ⟨_, _, _, rfl, by decide, by decide +kernel, Or.inr ⟨rfl, rfl, rfl, (gTw_2 141 (by decide +kernel) (by decide +kernel))⟩⟩
theorem pk_RX0_52_f : gPk false RX0 52 0 15 .int := ⟨_, _, _, rfl, by decide, by decide +kernel, Or.inl ⟨rfl, (Or.inl (gTw_2 142 (by decide +kernel) (by decide +kernel)))⟩⟩
theorem pk_RX0_52_t : gPk true RX0 52 0 15 .int := ⟨_, _, _, rfl, by decide, by decide +kernel, Or.inl ⟨rfl, (Or.inl (gTw_2 142 (by decide +kernel) (by decide +kernel)))⟩⟩
theorem pk_RX0_55_f : gPk false RX0 55 0 0 (.object "BrushGlass$Glass") := ⟨_, _, _, rfl, by decide, by decide +kernel, Or.inl ⟨rfl, (Or.inl (gTw_2 116 (by decide +kernel) (by decide +kernel)))⟩⟩
theorem pk_RX0_55_t : gPk true RX0 55 0 0 (.object "BrushGlass$Glass") := ⟨_, _, _, rfl, by decide, by decide +kernel, Or.inl ⟨rfl, (Or.inl (gTw_2 116 (by decide +kernel) (by decide +kernel)))⟩⟩
theorem pk_RX0_59_f : gPk false RX0 59 0 1 (.object "BrushGlass$Ways") := ⟨_, _, _, rfl, by decide, by decide +kernel, Or.inl ⟨rfl, (Or.inl (gTw_2 117 (by decide +kernel) (by decide +kernel)))⟩⟩
theorem pk_RX0_59_t : gPk true RX0 59 0 1 (.object "BrushGlass$Ways") := ⟨_, _, _, rfl, by decide, by decide +kernel, Or.inl ⟨rfl, (Or.inl (gTw_2 117 (by decide +kernel) (by decide +kernel)))⟩⟩
theorem pk_RX1_9_t : gPk true RX1 9 1 1 (.array .int) := ⟨_, _, _, rfl, by decide, by decide +kernel, Or.inr ⟨rfl, rfl, rfl, (gTw_2 182 (by decide +kernel) (by decide +kernel))⟩⟩
theorem pk_RX1_15_t : gPk true RX1 15 1 2 (.array .int) := ⟨_, _, _, rfl, by decide, by decide +kernel, Or.inr ⟨rfl, rfl, rfl, (gTw_2 183 (by decide +kernel) (by decide +kernel))⟩⟩
theorem pk_RX1_18_t : gPk true RX1 18 1 3 (.array .int) := ⟨_, _, _, rfl, by decide, by decide +kernel, Or.inr ⟨rfl, rfl, rfl, (gTw_2 184 (by decide +kernel) (by decide +kernel))⟩⟩
theorem pk_RX1_21_t : gPk true RX1 21 1 4 (.array .int) := ⟨_, _, _, rfl, by decide, by decide +kernel, Or.inr ⟨rfl, rfl, rfl, (gTw_2 185 (by decide +kernel) (by decide +kernel))⟩⟩
theorem pk_RX1_24_t : gPk true RX1 24 1 5 (.array .int) := ⟨_, _, _, rfl, by decide, by decide +kernel, Or.inr ⟨rfl, rfl, rfl, (gTw_2 186 (by decide +kernel) (by decide +kernel))⟩⟩
theorem pk_RX1_27_t : gPk true RX1 27 1 6 (.array .int) := ⟨_, _, _, rfl, by decide, by decide +kernel, Or.inr ⟨rfl, rfl, rfl, (gTw_2 188 (by decide +kernel) (by decide +kernel))⟩⟩
theorem pk_RX1_30_t : gPk true RX1 30 1 7 (.array .int) := ⟨_, _, _, rfl, by decide, by decide +kernel, Or.inr ⟨rfl, rfl, rfl, (gTw_2 190 (by decide +kernel) (by decide +kernel))⟩⟩
theorem pk_RX1_33_t : gPk true RX1 33 1 8 (.array .int) := ⟨_, _, _, rfl, by decide, by decide +kernel, Or.inr ⟨rfl, rfl, rfl, (gTw_2 192 (by decide +kernel) (by decide +kernel))⟩⟩
theorem pk_RX1_36_f : gPk false RX1 36 1 9 .int := ⟨_, _, _, rfl, by decide, by decide +kernel, Or.inl ⟨rfl, (Or.inl (gTw_2 194 (by decide +kernel) (by decide +kernel)))⟩⟩
theorem pk_RX1_36_t : gPk true RX1 36 1 9 .int := ⟨_, _, _, rfl, by decide, by decide +kernel, Or.inl ⟨rfl, (Or.inl (gTw_2 194 (by decide +kernel) (by decide +kernel)))⟩⟩
theorem pk_RX1_40_f : gPk false RX1 40 1 10 .int := ⟨_, _, _, rfl, by decide, by decide +kernel, Or.inl ⟨rfl, (Or.inl (gTw_2 196 (by decide +kernel) (by decide +kernel)))⟩⟩
theorem pk_RX1_40_t : gPk true RX1 40 1 10 .int := ⟨_, _, _, rfl, by decide, by decide +kernel, Or.inl ⟨rfl, (Or.inl (gTw_2 196 (by decide +kernel) (by decide +kernel)))⟩⟩
theorem pk_RX1_43_f : gPk false RX1 43 1 11 .int := ⟨_, _, _, rfl, by decide, by decide +kernel, Or.inl ⟨rfl, (Or.inl (gTw_2 198 (by decide +kernel) (by decide +kernel)))⟩⟩
theorem pk_RX1_43_t : gPk true RX1 43 1 11 .int := ⟨_, _, _, rfl, by decide, by decide +kernel, Or.inl ⟨rfl, (Or.inl (gTw_2 198 (by decide +kernel) (by decide +kernel)))⟩⟩
theorem pk_RX1_46_f : gPk false RX1 46 1 12 .int := ⟨_, _, _, rfl, by decide, by decide +kernel, Or.inl ⟨rfl, (Or.inl (gTw_2 200 (by decide +kernel) (by decide +kernel)))⟩⟩
theorem pk_RX1_46_t : gPk true RX1 46 1 12 .int := ⟨_, _, _, rfl, by decide, by decide +kernel, Or.inl ⟨rfl, (Or.inl (gTw_2 200 (by decide +kernel) (by decide +kernel)))⟩⟩
theorem pk_RX1_49_t : gPk true RX1 49 1 0 (.object "BrushGlass$Course") := ⟨_, _, _, rfl, by decide, by decide +kernel, Or.inr ⟨rfl, rfl, rfl, (gTw_2 180 (by decide +kernel) (by decide +kernel))⟩⟩
theorem pk_RX2_9_t : gPk true RX2 9 2 0 (.array .long) := ⟨_, _, _, rfl, by decide, by decide +kernel, Or.inr ⟨rfl, rfl, rfl, (gTw_3 59 (by decide +kernel) (by decide +kernel))⟩⟩
theorem pk_RX2_15_t : gPk true RX2 15 2 1 (.array .long) := ⟨_, _, _, rfl, by decide, by decide +kernel, Or.inr ⟨rfl, rfl, rfl, (gTw_3 60 (by decide +kernel) (by decide +kernel))⟩⟩
theorem pk_RX2_18_f : gPk false RX2 18 2 2 .long := ⟨_, _, _, rfl, by decide, by decide +kernel, Or.inl ⟨rfl, (Or.inl (gTw_3 61 (by decide +kernel) (by decide +kernel)))⟩⟩
theorem pk_RX2_18_t : gPk true RX2 18 2 2 .long := ⟨_, _, _, rfl, by decide, by decide +kernel, Or.inl ⟨rfl, (Or.inl (gTw_3 61 (by decide +kernel) (by decide +kernel)))⟩⟩
theorem pk_RX2_22_f : gPk false RX2 22 2 3 .long := ⟨_, _, _, rfl, by decide, by decide +kernel, Or.inl ⟨rfl, (Or.inl (gTw_3 63 (by decide +kernel) (by decide +kernel)))⟩⟩
theorem pk_RX2_22_t : gPk true RX2 22 2 3 .long := ⟨_, _, _, rfl, by decide, by decide +kernel, Or.inl ⟨rfl, (Or.inl (gTw_3 63 (by decide +kernel) (by decide +kernel)))⟩⟩
theorem pk_RX3_11_t : gPk true RX3 11 3 1 (.array .int) := ⟨_, _, _, rfl, by decide, by decide +kernel, Or.inr ⟨rfl, rfl, rfl, (gTw_2 236 (by decide +kernel) (by decide +kernel))⟩⟩
theorem pk_RX3_15_f : gPk false RX3 15 3 2 .int := ⟨_, _, _, rfl, by decide, by decide +kernel, Or.inl ⟨rfl, (Or.inl (gTw_2 237 (by decide +kernel) (by decide +kernel)))⟩⟩
theorem pk_RX3_15_t : gPk true RX3 15 3 2 .int := ⟨_, _, _, rfl, by decide, by decide +kernel, Or.inl ⟨rfl, (Or.inl (gTw_2 237 (by decide +kernel) (by decide +kernel)))⟩⟩
theorem pk_RX3_19_f : gPk false RX3 19 3 3 .boolean := ⟨_, _, _, rfl, by decide, by decide +kernel, Or.inl ⟨rfl, (Or.inl (gTw_2 239 (by decide +kernel) (by decide +kernel)))⟩⟩
theorem pk_RX3_19_t : gPk true RX3 19 3 3 .boolean := ⟨_, _, _, rfl, by decide, by decide +kernel, Or.inl ⟨rfl, (Or.inl (gTw_2 239 (by decide +kernel) (by decide +kernel)))⟩⟩
theorem pk_RX3_23_t : gPk true RX3 23 3 0 (.object "BrushGlass$Course") := ⟨_, _, _, rfl, by decide, by decide +kernel, Or.inr ⟨rfl, rfl, rfl, (gTw_2 235 (by decide +kernel) (by decide +kernel))⟩⟩
theorem pk_RX4_9_f : gPk false RX4 9 4 0 .int := ⟨_, _, _, rfl, by decide, by decide +kernel, Or.inl ⟨rfl, (Or.inl (gTw_1 115 (by decide +kernel) (by decide +kernel)))⟩⟩
theorem pk_RX4_9_t : gPk true RX4 9 4 0 .int := ⟨_, _, _, rfl, by decide, by decide +kernel, Or.inl ⟨rfl, (Or.inl (gTw_1 115 (by decide +kernel) (by decide +kernel)))⟩⟩
theorem pk_RX4_15_f : gPk false RX4 15 4 1 .int := ⟨_, _, _, rfl, by decide, by decide +kernel, Or.inl ⟨rfl, (Or.inl (gTw_1 120 (by decide +kernel) (by decide +kernel)))⟩⟩
theorem pk_RX4_15_t : gPk true RX4 15 4 1 .int := ⟨_, _, _, rfl, by decide, by decide +kernel, Or.inl ⟨rfl, (Or.inl (gTw_1 120 (by decide +kernel) (by decide +kernel)))⟩⟩
theorem pk_RX4_18_f : gPk false RX4 18 4 2 .int := ⟨_, _, _, rfl, by decide, by decide +kernel, Or.inl ⟨rfl, (Or.inl (gTw_1 128 (by decide +kernel) (by decide +kernel)))⟩⟩
theorem pk_RX4_18_t : gPk true RX4 18 4 2 .int := ⟨_, _, _, rfl, by decide, by decide +kernel, Or.inl ⟨rfl, (Or.inl (gTw_1 128 (by decide +kernel) (by decide +kernel)))⟩⟩
theorem pk_RX4_21_f : gPk false RX4 21 4 3 .int := ⟨_, _, _, rfl, by decide, by decide +kernel, Or.inl ⟨rfl, (Or.inl (gTw_1 131 (by decide +kernel) (by decide +kernel)))⟩⟩
theorem pk_RX4_21_t : gPk true RX4 21 4 3 .int := ⟨_, _, _, rfl, by decide, by decide +kernel, Or.inl ⟨rfl, (Or.inl (gTw_1 131 (by decide +kernel) (by decide +kernel)))⟩⟩
theorem pk_RX4_24_f : gPk false RX4 24 4 4 .int := ⟨_, _, _, rfl, by decide, by decide +kernel, Or.inl ⟨rfl, (Or.inl (gTw_1 135 (by decide +kernel) (by decide +kernel)))⟩⟩
theorem pk_RX4_24_t : gPk true RX4 24 4 4 .int := ⟨_, _, _, rfl, by decide, by decide +kernel, Or.inl ⟨rfl, (Or.inl (gTw_1 135 (by decide +kernel) (by decide +kernel)))⟩⟩
theorem pk_RX4_29_t : gPk true RX4 29 4 5 (.array (.object "BrushGlass$Person")) := ⟨_, _, _, rfl, by decide, by decide +kernel, Or.inr ⟨rfl, rfl, rfl, (gTw_1 143 (by decide +kernel) (by decide +kernel))⟩⟩
theorem pk_RX4_33_f : gPk false RX4 33 4 6 .int := ⟨_, _, _, rfl, by decide, by decide +kernel, Or.inl ⟨rfl, (Or.inl (gTw_1 149 (by decide +kernel) (by decide +kernel)))⟩⟩
theorem pk_RX4_33_t : gPk true RX4 33 4 6 .int := ⟨_, _, _, rfl, by decide, by decide +kernel, Or.inl ⟨rfl, (Or.inl (gTw_1 149 (by decide +kernel) (by decide +kernel)))⟩⟩
theorem pk_RX4_36_t : gPk true RX4 36 4 7 (.array .int) := ⟨_, _, _, rfl, by decide, by decide +kernel, Or.inr ⟨rfl, rfl, rfl, (gTw_1 153 (by decide +kernel) (by decide +kernel))⟩⟩
theorem pk_RX4_40_t : gPk true RX4 40 4 8 (.array .int) := ⟨_, _, _, rfl, by decide, by decide +kernel, Or.inr ⟨rfl, rfl, rfl, (gTw_1 156 (by decide +kernel) (by decide +kernel))⟩⟩
theorem pk_RX4_43_t : gPk true RX4 43 4 9 (.array .int) := ⟨_, _, _, rfl, by decide, by decide +kernel, Or.inr ⟨rfl, rfl, rfl, (gTw_1 159 (by decide +kernel) (by decide +kernel))⟩⟩
theorem pk_RX4_46_f : gPk false RX4 46 4 10 .int := ⟨_, _, _, rfl, by decide, by decide +kernel, Or.inl ⟨rfl, (Or.inl (gTw_1 162 (by decide +kernel) (by decide +kernel)))⟩⟩
theorem pk_RX4_46_t : gPk true RX4 46 4 10 .int := ⟨_, _, _, rfl, by decide, by decide +kernel, Or.inl ⟨rfl, (Or.inl (gTw_1 162 (by decide +kernel) (by decide +kernel)))⟩⟩
theorem pk_RX4_49_t : gPk true RX4 49 4 11 (.array .int) := ⟨_, _, _, rfl, by decide, by decide +kernel, Or.inr ⟨rfl, rfl, rfl, (gTw_1 166 (by decide +kernel) (by decide +kernel))⟩⟩
theorem pk_RX4_52_t : gPk true RX4 52 4 12 (.array .int) := ⟨_, _, _, rfl, by decide, by decide +kernel, Or.inr ⟨rfl, rfl, rfl, (gTw_1 170 (by decide +kernel) (by decide +kernel))⟩⟩
theorem pk_RX4_55_f : gPk false RX4 55 4 13 .int := ⟨_, _, _, rfl, by decide, by decide +kernel, Or.inl ⟨rfl, (Or.inl (gTw_1 174 (by decide +kernel) (by decide +kernel)))⟩⟩
theorem pk_RX4_55_t : gPk true RX4 55 4 13 .int := ⟨_, _, _, rfl, by decide, by decide +kernel, Or.inl ⟨rfl, (Or.inl (gTw_1 174 (by decide +kernel) (by decide +kernel)))⟩⟩
theorem pk_RX4_58_t : gPk true RX4 58 4 14 (.array .int) := ⟨_, _, _, rfl, by decide, by decide +kernel, Or.inr ⟨rfl, rfl, rfl, (gTw_1 177 (by decide +kernel) (by decide +kernel))⟩⟩
theorem pk_RX4_61_t : gPk true RX4 61 4 15 (.array .int) := ⟨_, _, _, rfl, by decide, by decide +kernel, Or.inr ⟨rfl, rfl, rfl, (gTw_1 180 (by decide +kernel) (by decide +kernel))⟩⟩
theorem pk_RX4_64_t : gPk true RX4 64 4 16 (.array .int) := ⟨_, _, _, rfl, by decide, by decide +kernel, Or.inr ⟨rfl, rfl, rfl, (gTw_1 183 (by decide +kernel) (by decide +kernel))⟩⟩
theorem pk_RX4_67_t : gPk true RX4 67 4 17 (.array .int) := ⟨_, _, _, rfl, by decide, by decide +kernel, Or.inr ⟨rfl, rfl, rfl, (gTw_1 186 (by decide +kernel) (by decide +kernel))⟩⟩
theorem pk_RX4_70_t : gPk true RX4 70 4 18 (.array .int) := ⟨_, _, _, rfl, by decide, by decide +kernel, Or.inr ⟨rfl, rfl, rfl, (gTw_1 191 (by decide +kernel) (by decide +kernel))⟩⟩
theorem pk_RX4_73_t : gPk true RX4 73 4 19 (.array .int) := ⟨_, _, _, rfl, by decide, by decide +kernel, Or.inr ⟨rfl, rfl, rfl, (gTw_1 193 (by decide +kernel) (by decide +kernel))⟩⟩
theorem pk_RX4_86_f : gPk false RX4 86 8 9 .int := ⟨_, _, _, rfl, by decide, by decide +kernel, Or.inl ⟨rfl, (Or.inl (gTw_1 78 (by decide +kernel) (by decide +kernel)))⟩⟩
theorem pk_RX5_11_t : gPk true RX5 11 5 0 (.array (.object "BrushGlass$Ways")) := ⟨_, _, _, rfl, by decide, by decide +kernel, Or.inr ⟨rfl, rfl, rfl, (gTw_2 90 (by decide +kernel) (by decide +kernel))⟩⟩
theorem pk_RX5_17_t : gPk true RX5 17 5 1 (.array (.object "BrushGlass$Ways")) := ⟨_, _, _, rfl, by decide, by decide +kernel, Or.inr ⟨rfl, rfl, rfl, (gTw_2 91 (by decide +kernel) (by decide +kernel))⟩⟩
theorem pk_RX5_20_f : gPk false RX5 20 5 2 .int := ⟨_, _, _, rfl, by decide, by decide +kernel, Or.inl ⟨rfl, (Or.inl (gTw_2 92 (by decide +kernel) (by decide +kernel)))⟩⟩
theorem pk_RX5_20_t : gPk true RX5 20 5 2 .int := ⟨_, _, _, rfl, by decide, by decide +kernel, Or.inl ⟨rfl, (Or.inl (gTw_2 92 (by decide +kernel) (by decide +kernel)))⟩⟩
theorem pk_RX5_24_f : gPk false RX5 24 5 3 .int := ⟨_, _, _, rfl, by decide, by decide +kernel, Or.inl ⟨rfl, (Or.inl (gTw_2 93 (by decide +kernel) (by decide +kernel)))⟩⟩
theorem pk_RX5_24_t : gPk true RX5 24 5 3 .int := ⟨_, _, _, rfl, by decide, by decide +kernel, Or.inl ⟨rfl, (Or.inl (gTw_2 93 (by decide +kernel) (by decide +kernel)))⟩⟩
theorem pk_RX5_27_f : gPk false RX5 27 5 4 .int := ⟨_, _, _, rfl, by decide, by decide +kernel, Or.inl ⟨rfl, (Or.inl (gTw_2 95 (by decide +kernel) (by decide +kernel)))⟩⟩
theorem pk_RX5_27_t : gPk true RX5 27 5 4 .int := ⟨_, _, _, rfl, by decide, by decide +kernel, Or.inl ⟨rfl, (Or.inl (gTw_2 95 (by decide +kernel) (by decide +kernel)))⟩⟩
theorem pk_RX6_9_t : gPk true RX6 9 6 0 (.array .int) := ⟨_, _, _, rfl, by decide, by decide +kernel, Or.inr ⟨rfl, rfl, rfl, (gTw_3 41 (by decide +kernel) (by decide +kernel))⟩⟩
theorem pk_RX6_15_t : gPk true RX6 15 6 1 (.array .int) := ⟨_, _, _, rfl, by decide, by decide +kernel, Or.inr ⟨rfl, rfl, rfl, (gTw_3 42 (by decide +kernel) (by decide +kernel))⟩⟩
theorem pk_RX6_18_f : gPk false RX6 18 6 2 .int := ⟨_, _, _, rfl, by decide, by decide +kernel, Or.inl ⟨rfl, (Or.inl (gTw_3 44 (by decide +kernel) (by decide +kernel)))⟩⟩
theorem pk_RX6_18_t : gPk true RX6 18 6 2 .int := ⟨_, _, _, rfl, by decide, by decide +kernel, Or.inl ⟨rfl, (Or.inl (gTw_3 44 (by decide +kernel) (by decide +kernel)))⟩⟩
theorem pk_RX7_9_f : gPk false RX7 9 7 0 .int := ⟨_, _, _, rfl, by decide, by decide +kernel, Or.inl ⟨rfl, (Or.inl (gTw_3 16 (by decide +kernel) (by decide +kernel)))⟩⟩
theorem pk_RX7_9_t : gPk true RX7 9 7 0 .int := ⟨_, _, _, rfl, by decide, by decide +kernel, Or.inl ⟨rfl, (Or.inl (gTw_3 16 (by decide +kernel) (by decide +kernel)))⟩⟩
theorem pk_RX7_15_t : gPk true RX7 15 7 1 (.array .int) := ⟨_, _, _, rfl, by decide, by decide +kernel, Or.inr ⟨rfl, rfl, rfl, (gTw_3 17 (by decide +kernel) (by decide +kernel))⟩⟩
theorem pk_RX7_19_t : gPk true RX7 19 7 2 (.array .int) := ⟨_, _, _, rfl, by decide, by decide +kernel, Or.inr ⟨rfl, rfl, rfl, (gTw_3 18 (by decide +kernel) (by decide +kernel))⟩⟩
theorem pk_RX7_22_t : gPk true RX7 22 7 3 (.array .int) := ⟨_, _, _, rfl, by decide, by decide +kernel, Or.inr ⟨rfl, rfl, rfl, (gTw_3 19 (by decide +kernel) (by decide +kernel))⟩⟩
theorem pk_RX7_25_t : gPk true RX7 25 7 4 (.array .int) := ⟨_, _, _, rfl, by decide, by decide +kernel, Or.inr ⟨rfl, rfl, rfl, (gTw_3 20 (by decide +kernel) (by decide +kernel))⟩⟩
theorem pk_RX7_28_f : gPk false RX7 28 7 5 .int := ⟨_, _, _, rfl, by decide, by decide +kernel, Or.inl ⟨rfl, (Or.inl (gTw_3 21 (by decide +kernel) (by decide +kernel)))⟩⟩
theorem pk_RX7_28_t : gPk true RX7 28 7 5 .int := ⟨_, _, _, rfl, by decide, by decide +kernel, Or.inl ⟨rfl, (Or.inl (gTw_3 21 (by decide +kernel) (by decide +kernel)))⟩⟩
theorem pk_RX8_9_t : gPk true RX8 9 8 0 .int := ⟨_, _, _, rfl, by decide, by decide +kernel, Or.inl ⟨rfl, (Or.inl (gTw_1 48 (by decide +kernel) (by decide +kernel)))⟩⟩
theorem pk_RX8_15_t : gPk true RX8 15 8 1 .int := ⟨_, _, _, rfl, by decide, by decide +kernel, Or.inl ⟨rfl, (Or.inl (gTw_1 50 (by decide +kernel) (by decide +kernel)))⟩⟩
theorem pk_RX8_18_t : gPk true RX8 18 8 2 .int := ⟨_, _, _, rfl, by decide, by decide +kernel, Or.inl ⟨rfl, (Or.inl (gTw_1 52 (by decide +kernel) (by decide +kernel)))⟩⟩
theorem pk_RX8_21_t : gPk true RX8 21 8 3 .int := ⟨_, _, _, rfl, by decide, by decide +kernel, Or.inl ⟨rfl, (Or.inl (gTw_1 55 (by decide +kernel) (by decide +kernel)))⟩⟩
theorem pk_RX8_24_t : gPk true RX8 24 8 4 .int := ⟨_, _, _, rfl, by decide, by decide +kernel, Or.inl ⟨rfl, (Or.inl (gTw_1 58 (by decide +kernel) (by decide +kernel)))⟩⟩
theorem pk_RX8_27_t : gPk true RX8 27 8 5 (.array .int) := ⟨_, _, _, rfl, by decide, by decide +kernel, Or.inr ⟨rfl, rfl, rfl, (gTw_1 62 (by decide +kernel) (by decide +kernel))⟩⟩
theorem pk_RX8_31_t : gPk true RX8 31 8 6 .int := ⟨_, _, _, rfl, by decide, by decide +kernel, Or.inl ⟨rfl, (Or.inl (gTw_1 66 (by decide +kernel) (by decide +kernel)))⟩⟩
theorem pk_RX8_34_t : gPk true RX8 34 8 7 .int := ⟨_, _, _, rfl, by decide, by decide +kernel, Or.inl ⟨rfl, (Or.inl (gTw_1 69 (by decide +kernel) (by decide +kernel)))⟩⟩
theorem pk_RX8_37_t : gPk true RX8 37 8 8 .boolean := ⟨_, _, _, rfl, by decide, by decide +kernel, Or.inl ⟨rfl, (Or.inl (gTw_1 73 (by decide +kernel) (by decide +kernel)))⟩⟩
theorem pk_RX8_41_t : gPk true RX8 41 8 9 .int := ⟨_, _, _, rfl, by decide, by decide +kernel, Or.inl ⟨rfl, (Or.inl (gTw_1 77 (by decide +kernel) (by decide +kernel)))⟩⟩
theorem pk_RX8_44_t : gPk true RX8 44 8 10 (.array .int) := ⟨_, _, _, rfl, by decide, by decide +kernel, Or.inr ⟨rfl, rfl, rfl, (gTw_1 81 (by decide +kernel) (by decide +kernel))⟩⟩
theorem pk_RX8_47_t : gPk true RX8 47 8 11 (.array .int) := ⟨_, _, _, rfl, by decide, by decide +kernel, Or.inr ⟨rfl, rfl, rfl, (gTw_1 84 (by decide +kernel) (by decide +kernel))⟩⟩
theorem pk_RX9_9_f : gPk false RX9 9 9 1 .int := ⟨_, _, _, rfl, by decide, by decide +kernel, Or.inl ⟨rfl, (Or.inl (gTw_2 3 (by decide +kernel) (by decide +kernel)))⟩⟩
theorem pk_RX9_9_t : gPk true RX9 9 9 1 .int := ⟨_, _, _, rfl, by decide, by decide +kernel, Or.inl ⟨rfl, (Or.inl (gTw_2 3 (by decide +kernel) (by decide +kernel)))⟩⟩
theorem pk_RX9_15_f : gPk false RX9 15 9 2 .int := ⟨_, _, _, rfl, by decide, by decide +kernel, Or.inl ⟨rfl, (Or.inl (gTw_2 4 (by decide +kernel) (by decide +kernel)))⟩⟩
theorem pk_RX9_15_t : gPk true RX9 15 9 2 .int := ⟨_, _, _, rfl, by decide, by decide +kernel, Or.inl ⟨rfl, (Or.inl (gTw_2 4 (by decide +kernel) (by decide +kernel)))⟩⟩
theorem pk_RX9_18_f : gPk false RX9 18 9 3 .int := ⟨_, _, _, rfl, by decide, by decide +kernel, Or.inl ⟨rfl, (Or.inl (gTw_2 5 (by decide +kernel) (by decide +kernel)))⟩⟩
theorem pk_RX9_18_t : gPk true RX9 18 9 3 .int := ⟨_, _, _, rfl, by decide, by decide +kernel, Or.inl ⟨rfl, (Or.inl (gTw_2 5 (by decide +kernel) (by decide +kernel)))⟩⟩
theorem pk_RX9_21_f : gPk false RX9 21 9 4 .int := ⟨_, _, _, rfl, by decide, by decide +kernel, Or.inl ⟨rfl, (Or.inl (gTw_2 6 (by decide +kernel) (by decide +kernel)))⟩⟩
theorem pk_RX9_21_t : gPk true RX9 21 9 4 .int := ⟨_, _, _, rfl, by decide, by decide +kernel, Or.inl ⟨rfl, (Or.inl (gTw_2 6 (by decide +kernel) (by decide +kernel)))⟩⟩
theorem pk_RX9_24_f : gPk false RX9 24 9 5 .int := ⟨_, _, _, rfl, by decide, by decide +kernel, Or.inl ⟨rfl, (Or.inl (gTw_2 7 (by decide +kernel) (by decide +kernel)))⟩⟩
theorem pk_RX9_24_t : gPk true RX9 24 9 5 .int := ⟨_, _, _, rfl, by decide, by decide +kernel, Or.inl ⟨rfl, (Or.inl (gTw_2 7 (by decide +kernel) (by decide +kernel)))⟩⟩
theorem pk_RX9_27_f : gPk false RX9 27 9 6 .int := ⟨_, _, _, rfl, by decide, by decide +kernel, Or.inl ⟨rfl, (Or.inl (gTw_2 8 (by decide +kernel) (by decide +kernel)))⟩⟩
theorem pk_RX9_27_t : gPk true RX9 27 9 6 .int := ⟨_, _, _, rfl, by decide, by decide +kernel, Or.inl ⟨rfl, (Or.inl (gTw_2 8 (by decide +kernel) (by decide +kernel)))⟩⟩
theorem pk_RX9_30_f : gPk false RX9 30 9 7 .int := ⟨_, _, _, rfl, by decide, by decide +kernel, Or.inl ⟨rfl, (Or.inl (gTw_2 9 (by decide +kernel) (by decide +kernel)))⟩⟩
theorem pk_RX9_30_t : gPk true RX9 30 9 7 .int := ⟨_, _, _, rfl, by decide, by decide +kernel, Or.inl ⟨rfl, (Or.inl (gTw_2 9 (by decide +kernel) (by decide +kernel)))⟩⟩
theorem pk_RX9_33_f : gPk false RX9 33 9 9 .int := ⟨_, _, _, rfl, by decide, by decide +kernel, Or.inl ⟨rfl, (Or.inl (gTw_2 11 (by decide +kernel) (by decide +kernel)))⟩⟩
theorem pk_RX9_33_t : gPk true RX9 33 9 9 .int := ⟨_, _, _, rfl, by decide, by decide +kernel, Or.inl ⟨rfl, (Or.inl (gTw_2 11 (by decide +kernel) (by decide +kernel)))⟩⟩
theorem pk_RX9_36_f : gPk false RX9 36 9 10 .int := ⟨_, _, _, rfl, by decide, by decide +kernel, Or.inl ⟨rfl, (Or.inl (gTw_2 13 (by decide +kernel) (by decide +kernel)))⟩⟩
theorem pk_RX9_36_t : gPk true RX9 36 9 10 .int := ⟨_, _, _, rfl, by decide, by decide +kernel, Or.inl ⟨rfl, (Or.inl (gTw_2 13 (by decide +kernel) (by decide +kernel)))⟩⟩
theorem pk_RX9_39_t : gPk true RX9 39 9 0 (.array .byte) := ⟨_, _, _, rfl, by decide, by decide +kernel, Or.inr ⟨rfl, rfl, rfl, (gTw_2 2 (by decide +kernel) (by decide +kernel))⟩⟩
theorem pk_RX9_43_f : gPk false RX9 43 9 8 (.object "BrushGlass$Glass") := ⟨_, _, _, rfl, by decide, by decide +kernel, Or.inl ⟨rfl, (Or.inl (gTw_2 10 (by decide +kernel) (by decide +kernel)))⟩⟩
theorem pk_RX9_43_t : gPk true RX9 43 9 8 (.object "BrushGlass$Glass") := ⟨_, _, _, rfl, by decide, by decide +kernel, Or.inl ⟨rfl, (Or.inl (gTw_2 10 (by decide +kernel) (by decide +kernel)))⟩⟩
theorem pk_RX9_65_f : gPk false RX9 65 4 4 .int := ⟨_, _, _, rfl, by decide, by decide +kernel, Or.inl ⟨rfl, (Or.inl (gTw_1 139 (by decide +kernel) (by decide +kernel)))⟩⟩
theorem pk_RX9_108_f : gPk false RX9 108 4 0 .int := ⟨_, _, _, rfl, by decide, by decide +kernel, Or.inl ⟨rfl, (Or.inl (gTw_1 118 (by decide +kernel) (by decide +kernel)))⟩⟩
theorem pk_RX9_127_f : gPk false RX9 127 4 6 .int := ⟨_, _, _, rfl, by decide, by decide +kernel, Or.inl ⟨rfl, (Or.inl (gTw_1 151 (by decide +kernel) (by decide +kernel)))⟩⟩
theorem pk_RX9_132_f : gPk false RX9 132 4 10 .int := ⟨_, _, _, rfl, by decide, by decide +kernel, Or.inl ⟨rfl, (Or.inl (gTw_1 164 (by decide +kernel) (by decide +kernel)))⟩⟩
theorem pk_RX9_138_f : gPk false RX9 138 4 13 .int := ⟨_, _, _, rfl, by decide, by decide +kernel, Or.inl ⟨rfl, (Or.inl (gTw_1 175 (by decide +kernel) (by decide +kernel)))⟩⟩
theorem pk_RX9_147_f : gPk false RX9 147 8 1 .int := ⟨_, _, _, rfl, by decide, by decide +kernel, Or.inl ⟨rfl, (Or.inl (gTw_1 51 (by decide +kernel) (by decide +kernel)))⟩⟩
theorem pk_RX9_152_f : gPk false RX9 152 8 0 .int := ⟨_, _, _, rfl, by decide, by decide +kernel, Or.inl ⟨rfl, (Or.inl (gTw_1 49 (by decide +kernel) (by decide +kernel)))⟩⟩
theorem pk_RX9_168_f : gPk false RX9 168 4 1 .int := ⟨_, _, _, rfl, by decide, by decide +kernel, Or.inl ⟨rfl, (Or.inl (gTw_1 127 (by decide +kernel) (by decide +kernel)))⟩⟩
theorem pk_RX9_172_f : gPk false RX9 172 4 2 .int := ⟨_, _, _, rfl, by decide, by decide +kernel, Or.inl ⟨rfl, (Or.inl (gTw_1 129 (by decide +kernel) (by decide +kernel)))⟩⟩
theorem pk_RX9_176_f : gPk false RX9 176 4 3 .int := ⟨_, _, _, rfl, by decide, by decide +kernel, Or.inl ⟨rfl, (Or.inl (gTw_1 133 (by decide +kernel) (by decide +kernel)))⟩⟩
theorem pk_RX9_196_f : gPk false RX9 196 8 6 .int := ⟨_, _, _, rfl, by decide, by decide +kernel, Or.inl ⟨rfl, (Or.inl (gTw_1 68 (by decide +kernel) (by decide +kernel)))⟩⟩
theorem pk_RX9_201_f : gPk false RX9 201 8 7 .int := ⟨_, _, _, rfl, by decide, by decide +kernel, Or.inl ⟨rfl, (Or.inl (gTw_1 72 (by decide +kernel) (by decide +kernel)))⟩⟩
theorem pk_RX9_208_f : gPk false RX9 208 8 9 .int := ⟨_, _, _, rfl, by decide, by decide +kernel, Or.inl ⟨rfl, (Or.inl (gTw_1 80 (by decide +kernel) (by decide +kernel)))⟩⟩
theorem pk_RX9_223_f : gPk false RX9 223 8 2 .int := ⟨_, _, _, rfl, by decide, by decide +kernel, Or.inl ⟨rfl, (Or.inl (gTw_1 54 (by decide +kernel) (by decide +kernel)))⟩⟩
theorem pk_RX9_234_f : gPk false RX9 234 8 3 .int := ⟨_, _, _, rfl, by decide, by decide +kernel, Or.inl ⟨rfl, (Or.inl (gTw_1 57 (by decide +kernel) (by decide +kernel)))⟩⟩
theorem pk_RX9_239_f : gPk false RX9 239 8 8 .boolean := ⟨_, _, _, rfl, by decide, by decide +kernel, Or.inl ⟨rfl, (Or.inl (gTw_1 76 (by decide +kernel) (by decide +kernel)))⟩⟩
theorem pk_RX9_244_f : gPk false RX9 244 8 4 .int := ⟨_, _, _, rfl, by decide, by decide +kernel, Or.inl ⟨rfl, (Or.inl (gTw_1 61 (by decide +kernel) (by decide +kernel)))⟩⟩
theorem pk_RX10_9_t : gPk true RX10 9 10 0 (.array .int) := ⟨_, _, _, rfl, by decide, by decide +kernel, Or.inr ⟨rfl, rfl, rfl, (gTw_2 44 (by decide +kernel) (by decide +kernel))⟩⟩
theorem pk_RX10_15_t : gPk true RX10 15 10 1 (.array .int) := ⟨_, _, _, rfl, by decide, by decide +kernel, Or.inr ⟨rfl, rfl, rfl, (gTw_2 47 (by decide +kernel) (by decide +kernel))⟩⟩
theorem pk_RX10_18_t : gPk true RX10 18 10 2 (.array .int) := ⟨_, _, _, rfl, by decide, by decide +kernel, Or.inr ⟨rfl, rfl, rfl, (gTw_2 50 (by decide +kernel) (by decide +kernel))⟩⟩
theorem pk_RX10_21_f : gPk false RX10 21 10 3 .int := ⟨_, _, _, rfl, by decide, by decide +kernel, Or.inl ⟨rfl, (Or.inl (gTw_2 53 (by decide +kernel) (by decide +kernel)))⟩⟩
theorem pk_RX10_21_t : gPk true RX10 21 10 3 .int := ⟨_, _, _, rfl, by decide, by decide +kernel, Or.inl ⟨rfl, (Or.inl (gTw_2 53 (by decide +kernel) (by decide +kernel)))⟩⟩
theorem pk_RX10_25_t : gPk true RX10 25 10 4 (.array .int) := ⟨_, _, _, rfl, by decide, by decide +kernel, Or.inr ⟨rfl, rfl, rfl, (gTw_2 56 (by decide +kernel) (by decide +kernel))⟩⟩
theorem pk_RX10_28_t : gPk true RX10 28 10 5 (.array .int) := ⟨_, _, _, rfl, by decide, by decide +kernel, Or.inr ⟨rfl, rfl, rfl, (gTw_2 58 (by decide +kernel) (by decide +kernel))⟩⟩
theorem pk_RX10_31_t : gPk true RX10 31 10 6 (.array .int) := ⟨_, _, _, rfl, by decide, by decide +kernel, Or.inr ⟨rfl, rfl, rfl, (gTw_2 60 (by decide +kernel) (by decide +kernel))⟩⟩
theorem pk_RX10_34_f : gPk false RX10 34 10 7 .int := ⟨_, _, _, rfl, by decide, by decide +kernel, Or.inl ⟨rfl, (Or.inl (gTw_2 62 (by decide +kernel) (by decide +kernel)))⟩⟩
theorem pk_RX10_34_t : gPk true RX10 34 10 7 .int := ⟨_, _, _, rfl, by decide, by decide +kernel, Or.inl ⟨rfl, (Or.inl (gTw_2 62 (by decide +kernel) (by decide +kernel)))⟩⟩
theorem pk_RX13_9_f : gPk false RX13 9 13 2 .int := ⟨_, _, _, rfl, by decide, by decide +kernel, Or.inl ⟨rfl, (Or.inl (gTw_6 204 (by decide +kernel) (by decide +kernel)))⟩⟩
theorem pk_RX13_9_t : gPk true RX13 9 13 2 .int := ⟨_, _, _, rfl, by decide, by decide +kernel, Or.inl ⟨rfl, (Or.inl (gTw_6 204 (by decide +kernel) (by decide +kernel)))⟩⟩
theorem pk_RX13_13_t : gPk true RX13 13 13 5 (.array .byte) := ⟨_, _, _, rfl, by decide, by decide +kernel, Or.inr ⟨rfl, rfl, rfl, (gTw_6 207 (by decide +kernel) (by decide +kernel))⟩⟩
theorem pk_RX13_17_t : gPk true RX13 17 13 16 (.array .int) := ⟨_, _, _, rfl, by decide, by decide +kernel, Or.inr ⟨rfl, rfl, rfl, (gTw_6 218 (by decide +kernel) (by decide +kernel))⟩⟩
theorem pk_RX13_21_t : gPk true RX13 21 13 18 (.array .int) := ⟨_, _, _, rfl, by decide, by decide +kernel, Or.inr ⟨rfl, rfl, rfl, (gTw_6 220 (by decide +kernel) (by decide +kernel))⟩⟩
theorem pk_RX13_24_t : gPk true RX13 24 13 19 (.array .int) := ⟨_, _, _, rfl, by decide, by decide +kernel, Or.inr ⟨rfl, rfl, rfl, (gTw_6 221 (by decide +kernel) (by decide +kernel))⟩⟩
theorem pk_RX13_27_t : gPk true RX13 27 13 20 (.array .int) := ⟨_, _, _, rfl, by decide, by decide +kernel, Or.inr ⟨rfl, rfl, rfl, (gTw_6 222 (by decide +kernel) (by decide +kernel))⟩⟩
theorem pk_RX13_30_t : gPk true RX13 30 13 23 (.array .int) := ⟨_, _, _, rfl, by decide, by decide +kernel, Or.inr ⟨rfl, rfl, rfl, (gTw_6 225 (by decide +kernel) (by decide +kernel))⟩⟩
theorem pk_RX13_33_t : gPk true RX13 33 13 24 (.array .int) := ⟨_, _, _, rfl, by decide, by decide +kernel, Or.inr ⟨rfl, rfl, rfl, (gTw_6 226 (by decide +kernel) (by decide +kernel))⟩⟩
theorem pk_RX13_36_t : gPk true RX13 36 13 25 (.array .int) := ⟨_, _, _, rfl, by decide, by decide +kernel, Or.inr ⟨rfl, rfl, rfl, (gTw_6 227 (by decide +kernel) (by decide +kernel))⟩⟩
theorem pk_RX13_39_t : gPk true RX13 39 13 26 (.array .int) := ⟨_, _, _, rfl, by decide, by decide +kernel, Or.inr ⟨rfl, rfl, rfl, (gTw_6 228 (by decide +kernel) (by decide +kernel))⟩⟩
theorem pk_RX13_42_t : gPk true RX13 42 13 27 (.array .int) := ⟨_, _, _, rfl, by decide, by decide +kernel, Or.inr ⟨rfl, rfl, rfl, (gTw_6 229 (by decide +kernel) (by decide +kernel))⟩⟩
theorem pk_RX13_45_t : gPk true RX13 45 13 28 (.array .int) := ⟨_, _, _, rfl, by decide, by decide +kernel, Or.inr ⟨rfl, rfl, rfl, (gTw_6 230 (by decide +kernel) (by decide +kernel))⟩⟩
theorem pk_RX13_48_t : gPk true RX13 48 13 29 (.array .int) := ⟨_, _, _, rfl, by decide, by decide +kernel, Or.inr ⟨rfl, rfl, rfl, (gTw_6 231 (by decide +kernel) (by decide +kernel))⟩⟩
theorem pk_RX13_51_t : gPk true RX13 51 13 30 (.array .int) := ⟨_, _, _, rfl, by decide, by decide +kernel, Or.inr ⟨rfl, rfl, rfl, (gTw_6 232 (by decide +kernel) (by decide +kernel))⟩⟩
theorem pk_RX13_54_t : gPk true RX13 54 13 31 (.array .int) := ⟨_, _, _, rfl, by decide, by decide +kernel, Or.inr ⟨rfl, rfl, rfl, (gTw_6 233 (by decide +kernel) (by decide +kernel))⟩⟩
theorem pk_RX13_57_t : gPk true RX13 57 13 32 (.array .int) := ⟨_, _, _, rfl, by decide, by decide +kernel, Or.inr ⟨rfl, rfl, rfl, (gTw_6 234 (by decide +kernel) (by decide +kernel))⟩⟩
theorem pk_RX13_60_t : gPk true RX13 60 13 33 (.array .int) := ⟨_, _, _, rfl, by decide, by decide +kernel, Or.inr ⟨rfl, rfl, rfl, (gTw_6 235 (by decide +kernel) (by decide +kernel))⟩⟩
theorem pk_RX13_63_t : gPk true RX13 63 13 34 (.array .int) := ⟨_, _, _, rfl, by decide, by decide +kernel, Or.inr ⟨rfl, rfl, rfl, (gTw_6 236 (by decide +kernel) (by decide +kernel))⟩⟩
theorem pk_RX13_66_t : gPk true RX13 66 13 41 (.array .int) := ⟨_, _, _, rfl, by decide, by decide +kernel, Or.inr ⟨rfl, rfl, rfl, (gTw_7 3 (by decide +kernel) (by decide +kernel))⟩⟩
theorem pk_RX13_69_t : gPk true RX13 69 13 45 (.array .int) := ⟨_, _, _, rfl, by decide, by decide +kernel, Or.inr ⟨rfl, rfl, rfl, (gTw_7 7 (by decide +kernel) (by decide +kernel))⟩⟩
theorem pk_RX13_72_t : gPk true RX13 72 13 46 (.array .int) := ⟨_, _, _, rfl, by decide, by decide +kernel, Or.inr ⟨rfl, rfl, rfl, (gTw_7 8 (by decide +kernel) (by decide +kernel))⟩⟩
theorem pk_RX13_75_t : gPk true RX13 75 13 47 (.array .int) := ⟨_, _, _, rfl, by decide, by decide +kernel, Or.inr ⟨rfl, rfl, rfl, (gTw_7 9 (by decide +kernel) (by decide +kernel))⟩⟩
theorem pk_RX13_78_t : gPk true RX13 78 13 48 (.array .int) := ⟨_, _, _, rfl, by decide, by decide +kernel, Or.inr ⟨rfl, rfl, rfl, (gTw_7 10 (by decide +kernel) (by decide +kernel))⟩⟩
theorem pk_RX13_81_t : gPk true RX13 81 13 50 (.array .long) := ⟨_, _, _, rfl, by decide, by decide +kernel, Or.inr ⟨rfl, rfl, rfl, (gTw_7 12 (by decide +kernel) (by decide +kernel))⟩⟩
theorem pk_RX13_85_t : gPk true RX13 85 13 51 (.array .long) := ⟨_, _, _, rfl, by decide, by decide +kernel, Or.inr ⟨rfl, rfl, rfl, (gTw_7 13 (by decide +kernel) (by decide +kernel))⟩⟩
theorem pk_RX13_88_f : gPk false RX13 88 13 0 .int := ⟨_, _, _, rfl, by decide, by decide +kernel, Or.inl ⟨rfl, (Or.inl (gTw_6 202 (by decide +kernel) (by decide +kernel)))⟩⟩
theorem pk_RX13_91_f : gPk false RX13 91 13 1 .int := ⟨_, _, _, rfl, by decide, by decide +kernel, Or.inl ⟨rfl, (Or.inl (gTw_6 203 (by decide +kernel) (by decide +kernel)))⟩⟩
theorem pk_RX13_101_f : gPk false RX13 101 13 7 .int := ⟨_, _, _, rfl, by decide, by decide +kernel, Or.inl ⟨rfl, (Or.inl (gTw_6 209 (by decide +kernel) (by decide +kernel)))⟩⟩
theorem pk_RX13_116_f : gPk false RX13 116 13 9 .int := ⟨_, _, _, rfl, by decide, by decide +kernel, Or.inl ⟨rfl, (Or.inl (gTw_6 211 (by decide +kernel) (by decide +kernel)))⟩⟩
theorem pk_RX13_119_f : gPk false RX13 119 13 8 .int := ⟨_, _, _, rfl, by decide, by decide +kernel, Or.inl ⟨rfl, (Or.inl (gTw_6 210 (by decide +kernel) (by decide +kernel)))⟩⟩
theorem pk_RX13_125_f : gPk false RX13 125 13 10 .int := ⟨_, _, _, rfl, by decide, by decide +kernel, Or.inl ⟨rfl, (Or.inl (gTw_6 212 (by decide +kernel) (by decide +kernel)))⟩⟩
theorem pk_RX13_128_f : gPk false RX13 128 13 11 .int := ⟨_, _, _, rfl, by decide, by decide +kernel, Or.inl ⟨rfl, (Or.inl (gTw_6 213 (by decide +kernel) (by decide +kernel)))⟩⟩
theorem pk_RX13_135_f : gPk false RX13 135 13 17 .long := ⟨_, _, _, rfl, by decide, by decide +kernel, Or.inl ⟨rfl, (Or.inl (gTw_6 219 (by decide +kernel) (by decide +kernel)))⟩⟩
theorem pk_RX13_139_f : gPk false RX13 139 13 13 .int := ⟨_, _, _, rfl, by decide, by decide +kernel, Or.inl ⟨rfl, (Or.inl (gTw_6 215 (by decide +kernel) (by decide +kernel)))⟩⟩
theorem pk_RX13_145_f : gPk false RX13 145 13 12 .int := ⟨_, _, _, rfl, by decide, by decide +kernel, Or.inl ⟨rfl, (Or.inl (gTw_6 214 (by decide +kernel) (by decide +kernel)))⟩⟩
theorem pk_RX13_148_f : gPk false RX13 148 13 14 .int := ⟨_, _, _, rfl, by decide, by decide +kernel, Or.inl ⟨rfl, (Or.inl (gTw_6 216 (by decide +kernel) (by decide +kernel)))⟩⟩
theorem pk_RX13_151_f : gPk false RX13 151 13 15 .int := ⟨_, _, _, rfl, by decide, by decide +kernel, Or.inl ⟨rfl, (Or.inl (gTw_6 217 (by decide +kernel) (by decide +kernel)))⟩⟩
theorem pk_RX13_196_f : gPk false RX13 196 13 4 (.object "BrushGlassModel$Glass") := ⟨_, _, _, rfl, by decide, by decide +kernel, Or.inl ⟨rfl, (Or.inl (gTw_6 206 (by decide +kernel) (by decide +kernel)))⟩⟩
theorem pk_RX13_200_f : gPk false RX13 200 12 0 .int := ⟨_, _, _, rfl, by decide, by decide +kernel, Or.inl ⟨rfl, (Or.inr ⟨"BrushGlassModel", by decide +kernel⟩)⟩⟩
theorem pk_RX13_219_f : gPk false RX13 219 12 4 .int := ⟨_, _, _, rfl, by decide, by decide +kernel, Or.inl ⟨rfl, (Or.inr ⟨"BrushGlassModel", by decide +kernel⟩)⟩⟩
theorem pk_RX13_251_f : gPk false RX13 251 12 1 .int := ⟨_, _, _, rfl, by decide, by decide +kernel, Or.inl ⟨rfl, (Or.inr ⟨"BrushGlassModel", by decide +kernel⟩)⟩⟩
theorem pk_RX13_253_f : gPk false RX13 253 12 2 .int := ⟨_, _, _, rfl, by decide, by decide +kernel, Or.inl ⟨rfl, (Or.inr ⟨"BrushGlassModel", by decide +kernel⟩)⟩⟩
theorem pk_RX13_255_f : gPk false RX13 255 12 3 .int := ⟨_, _, _, rfl, by decide, by decide +kernel, Or.inl ⟨rfl, (Or.inr ⟨"BrushGlassModel", by decide +kernel⟩)⟩⟩
theorem pk_RX13_322_f : gPk false RX13 322 12 5 .int := ⟨_, _, _, rfl, by decide, by decide +kernel, Or.inl ⟨rfl, (Or.inr ⟨"BrushGlassModel", by decide +kernel⟩)⟩⟩
theorem pk_RX13_336_f : gPk false RX13 336 12 6 .int := ⟨_, _, _, rfl, by decide, by decide +kernel, Or.inl ⟨rfl, (Or.inr ⟨"BrushGlassModel", by decide +kernel⟩)⟩⟩
theorem pk_RX13_344_f : gPk false RX13 344 12 7 .int := ⟨_, _, _, rfl, by decide, by decide +kernel, Or.inl ⟨rfl, (Or.inr ⟨"BrushGlassModel", by decide +kernel⟩)⟩⟩
theorem pk_RX13_356_f : gPk false RX13 356 13 6 .int := ⟨_, _, _, rfl, by decide, by decide +kernel, Or.inl ⟨rfl, (Or.inl (gTw_6 208 (by decide +kernel) (by decide +kernel)))⟩⟩
theorem pk_RX13_363_f : gPk false RX13 363 13 3 (.object "BrushGlassModel$Glass") := ⟨_, _, _, rfl, by decide, by decide +kernel, Or.inl ⟨rfl, (Or.inl (gTw_6 205 (by decide +kernel) (by decide +kernel)))⟩⟩
theorem pk_RX13_365_f : gPk false RX13 365 13 21 .int := ⟨_, _, _, rfl, by decide, by decide +kernel, Or.inl ⟨rfl, (Or.inl (gTw_6 223 (by decide +kernel) (by decide +kernel)))⟩⟩
theorem pk_RX13_368_f : gPk false RX13 368 13 22 .int := ⟨_, _, _, rfl, by decide, by decide +kernel, Or.inl ⟨rfl, (Or.inl (gTw_6 224 (by decide +kernel) (by decide +kernel)))⟩⟩
theorem pk_RX13_371_f : gPk false RX13 371 13 40 .int := ⟨_, _, _, rfl, by decide, by decide +kernel, Or.inl ⟨rfl, (Or.inl (gTw_7 2 (by decide +kernel) (by decide +kernel)))⟩⟩
theorem pk_RX13_374_f : gPk false RX13 374 13 39 .int := ⟨_, _, _, rfl, by decide, by decide +kernel, Or.inl ⟨rfl, (Or.inl (gTw_7 1 (by decide +kernel) (by decide +kernel)))⟩⟩
theorem pk_RX13_377_f : gPk false RX13 377 13 36 .int := ⟨_, _, _, rfl, by decide, by decide +kernel, Or.inl ⟨rfl, (Or.inl (gTw_6 238 (by decide +kernel) (by decide +kernel)))⟩⟩
theorem pk_RX13_383_f : gPk false RX13 383 13 35 .int := ⟨_, _, _, rfl, by decide, by decide +kernel, Or.inl ⟨rfl, (Or.inl (gTw_6 237 (by decide +kernel) (by decide +kernel)))⟩⟩
theorem pk_RX13_404_f : gPk false RX13 404 13 37 .int := ⟨_, _, _, rfl, by decide, by decide +kernel, Or.inl ⟨rfl, (Or.inl (gTw_6 239 (by decide +kernel) (by decide +kernel)))⟩⟩
theorem pk_RX13_407_f : gPk false RX13 407 13 38 .int := ⟨_, _, _, rfl, by decide, by decide +kernel, Or.inl ⟨rfl, (Or.inl (gTw_7 0 (by decide +kernel) (by decide +kernel)))⟩⟩
theorem pk_RX13_507_f : gPk false RX13 507 13 42 .int := ⟨_, _, _, rfl, by decide, by decide +kernel, Or.inl ⟨rfl, (Or.inl (gTw_7 4 (by decide +kernel) (by decide +kernel)))⟩⟩
theorem pk_RX13_510_f : gPk false RX13 510 13 43 .int := ⟨_, _, _, rfl, by decide, by decide +kernel, Or.inl ⟨rfl, (Or.inl (gTw_7 5 (by decide +kernel) (by decide +kernel)))⟩⟩
theorem pk_RX13_513_f : gPk false RX13 513 13 44 .int := ⟨_, _, _, rfl, by decide, by decide +kernel, Or.inl ⟨rfl, (Or.inl (gTw_7 6 (by decide +kernel) (by decide +kernel)))⟩⟩
theorem pk_RX13_525_f : gPk false RX13 525 13 49 .int := ⟨_, _, _, rfl, by decide, by decide +kernel, Or.inl ⟨rfl, (Or.inl (gTw_7 11 (by decide +kernel) (by decide +kernel)))⟩⟩
theorem pk_RX12_9_t : gPk true RX12 9 12 8 (.array .long) := ⟨_, _, _, rfl, by decide, by decide +kernel, Or.inr ⟨rfl, rfl, rfl, (gTw_7 150 (by decide +kernel) (by decide +kernel))⟩⟩
theorem pk_RX12_15_t : gPk true RX12 15 12 9 (.array .int) := ⟨_, _, _, rfl, by decide, by decide +kernel, Or.inr ⟨rfl, rfl, rfl, (gTw_7 152 (by decide +kernel) (by decide +kernel))⟩⟩
theorem pk_RX12_19_t : gPk true RX12 19 12 10 (.array .int) := ⟨_, _, _, rfl, by decide, by decide +kernel, Or.inr ⟨rfl, rfl, rfl, (gTw_7 154 (by decide +kernel) (by decide +kernel))⟩⟩
theorem pk_RX12_22_t : gPk true RX12 22 12 11 (.array .int) := ⟨_, _, _, rfl, by decide, by decide +kernel, Or.inr ⟨rfl, rfl, rfl, (gTw_7 156 (by decide +kernel) (by decide +kernel))⟩⟩
theorem pk_RX12_25_t : gPk true RX12 25 12 12 (.array .int) := ⟨_, _, _, rfl, by decide, by decide +kernel, Or.inr ⟨rfl, rfl, rfl, (gTw_7 158 (by decide +kernel) (by decide +kernel))⟩⟩
theorem pk_RX12_28_t : gPk true RX12 28 12 13 (.array .int) := ⟨_, _, _, rfl, by decide, by decide +kernel, Or.inr ⟨rfl, rfl, rfl, (gTw_7 160 (by decide +kernel) (by decide +kernel))⟩⟩
theorem pk_RX12_31_t : gPk true RX12 31 12 14 (.array .int) := ⟨_, _, _, rfl, by decide, by decide +kernel, Or.inr ⟨rfl, rfl, rfl, (gTw_7 162 (by decide +kernel) (by decide +kernel))⟩⟩
theorem pk_RX12_34_t : gPk true RX12 34 12 15 (.array .int) := ⟨_, _, _, rfl, by decide, by decide +kernel, Or.inr ⟨rfl, rfl, rfl, (gTw_7 164 (by decide +kernel) (by decide +kernel))⟩⟩
theorem pk_RX12_37_t : gPk true RX12 37 12 16 (.array .int) := ⟨_, _, _, rfl, by decide, by decide +kernel, Or.inr ⟨rfl, rfl, rfl, (gTw_7 166 (by decide +kernel) (by decide +kernel))⟩⟩
theorem pk_RX12_40_t : gPk true RX12 40 12 17 (.array .int) := ⟨_, _, _, rfl, by decide, by decide +kernel, Or.inr ⟨rfl, rfl, rfl, (gTw_7 168 (by decide +kernel) (by decide +kernel))⟩⟩
theorem pk_RX12_43_t : gPk true RX12 43 12 18 (.array .boolean) := ⟨_, _, _, rfl, by decide, by decide +kernel, Or.inr ⟨rfl, rfl, rfl, (gTw_7 170 (by decide +kernel) (by decide +kernel))⟩⟩
theorem pk_RX12_47_t : gPk true RX12 47 12 19 (.array .int) := ⟨_, _, _, rfl, by decide, by decide +kernel, Or.inr ⟨rfl, rfl, rfl, (gTw_7 172 (by decide +kernel) (by decide +kernel))⟩⟩
theorem pk_RX12_50_t : gPk true RX12 50 12 20 (.array .int) := ⟨_, _, _, rfl, by decide, by decide +kernel, Or.inr ⟨rfl, rfl, rfl, (gTw_7 174 (by decide +kernel) (by decide +kernel))⟩⟩
theorem pk_RX12_53_t : gPk true RX12 53 12 21 (.array .int) := ⟨_, _, _, rfl, by decide, by decide +kernel, Or.inr ⟨rfl, rfl, rfl, (gTw_7 176 (by decide +kernel) (by decide +kernel))⟩⟩
theorem pk_RX12_56_t : gPk true RX12 56 12 22 (.array .int) := ⟨_, _, _, rfl, by decide, by decide +kernel, Or.inr ⟨rfl, rfl, rfl, (gTw_7 178 (by decide +kernel) (by decide +kernel))⟩⟩
theorem pk_RX12_59_t : gPk true RX12 59 12 23 (.array .int) := ⟨_, _, _, rfl, by decide, by decide +kernel, Or.inr ⟨rfl, rfl, rfl, (gTw_7 180 (by decide +kernel) (by decide +kernel))⟩⟩
theorem pk_RX12_62_t : gPk true RX12 62 12 24 (.array .int) := ⟨_, _, _, rfl, by decide, by decide +kernel, Or.inr ⟨rfl, rfl, rfl, (gTw_7 182 (by decide +kernel) (by decide +kernel))⟩⟩
theorem pk_RX12_65_t : gPk true RX12 65 12 25 (.array .int) := ⟨_, _, _, rfl, by decide, by decide +kernel, Or.inr ⟨rfl, rfl, rfl, (gTw_7 184 (by decide +kernel) (by decide +kernel))⟩⟩
theorem pk_RX12_68_t : gPk true RX12 68 12 26 (.array .int) := ⟨_, _, _, rfl, by decide, by decide +kernel, Or.inr ⟨rfl, rfl, rfl, (gTw_7 186 (by decide +kernel) (by decide +kernel))⟩⟩
theorem mo_0 : gMok (yX0_init, cX0_init, 3, none, some 0) 2 := ⟨(gTw_2 114 (by decide +kernel) (by decide +kernel)), (gTw_1 8 (by decide +kernel) (by decide +kernel)), ⟨by decide, by decide, by decide +kernel⟩, by decide⟩
theorem mt_0 : gMt[0]? = some (yX0_init, cX0_init, 3, none, some 0) := gMtc_0 (j := 0) rfl
theorem im_0 : Cond.instanceMethod yX0_init ∈ gTw := (gTw_2 113 (by decide +kernel) (by decide +kernel))
theorem mo_1 : gMok (yX0_begin, cX0_begin, 3, none, some 0) 2 := ⟨(gTw_4 202 (by decide +kernel) (by decide +kernel)), (gTw_1 8 (by decide +kernel) (by decide +kernel)), ⟨by decide, by decide, by decide +kernel⟩, by decide⟩
theorem mt_1 : gMt[1]? = some (yX0_begin, cX0_begin, 3, none, some 0) := gMtc_0 (j := 1) rfl
theorem sl_1 : Cond.selects yX0_begin.cls yX0_begin yX0_begin ∈ gTw := (gTw_4 201 (by decide +kernel) (by decide +kernel))
theorem im_1 : Cond.instanceMethod yX0_begin ∈ gTw := (gTw_4 200 (by decide +kernel) (by decide +kernel))
theorem mo_2 : gMok (yX0_morning, cX0_morning, 3, none, some 0) 1 := ⟨(gTw_4 207 (by decide +kernel) (by decide +kernel)), (gTw_1 8 (by decide +kernel) (by decide +kernel)), ⟨by decide, by decide, by decide +kernel⟩, by decide⟩
theorem mt_2 : gMt[2]? = some (yX0_morning, cX0_morning, 3, none, some 0) := gMtc_0 (j := 2) rfl
theorem sl_2 : Cond.selects yX0_morning.cls yX0_morning yX0_morning ∈ gTw := (gTw_4 206 (by decide +kernel) (by decide +kernel))
theorem im_2 : Cond.instanceMethod yX0_morning ∈ gTw := (gTw_4 205 (by decide +kernel) (by decide +kernel))
theorem mo_3 : gMok (yX0_evening, cX0_evening, 3, none, some 0) 1 := ⟨(gTw_4 239 (by decide +kernel) (by decide +kernel)), (gTw_1 8 (by decide +kernel) (by decide +kernel)), ⟨by decide, by decide, by decide +kernel⟩, by decide⟩
theorem mt_3 : gMt[3]? = some (yX0_evening, cX0_evening, 3, none, some 0) := gMtc_0 (j := 3) rfl
theorem sl_3 : Cond.selects yX0_evening.cls yX0_evening yX0_evening ∈ gTw := (gTw_4 238 (by decide +kernel) (by decide +kernel))
theorem im_3 : Cond.instanceMethod yX0_evening ∈ gTw := (gTw_4 237 (by decide +kernel) (by decide +kernel))
theorem mo_4 : gMok (yX0_night, cX0_night, 3, none, some 0) 1 := ⟨(gTw_5 20 (by decide +kernel) (by decide +kernel)), (gTw_1 8 (by decide +kernel) (by decide +kernel)), ⟨by decide, by decide, by decide +kernel⟩, by decide⟩
theorem mt_4 : gMt[4]? = some (yX0_night, cX0_night, 3, none, some 0) := gMtc_0 (j := 4) rfl
theorem sl_4 : Cond.selects yX0_night.cls yX0_night yX0_night ∈ gTw := (gTw_5 19 (by decide +kernel) (by decide +kernel))
theorem im_4 : Cond.instanceMethod yX0_night ∈ gTw := (gTw_5 18 (by decide +kernel) (by decide +kernel))
theorem mo_5 : gMok (yX0_exchange, cX0_exchange, 4, none, some 0) 2 := ⟨(gTw_4 235 (by decide +kernel) (by decide +kernel)), (gTw_1 8 (by decide +kernel) (by decide +kernel)), ⟨by decide, by decide, by decide +kernel⟩, by decide⟩
theorem mt_5 : gMt[5]? = some (yX0_exchange, cX0_exchange, 4, none, some 0) := gMtc_0 (j := 5) rfl
theorem sl_5 : Cond.selects yX0_exchange.cls yX0_exchange yX0_exchange ∈ gTw := (gTw_4 234 (by decide +kernel) (by decide +kernel))
theorem im_5 : Cond.instanceMethod yX0_exchange ∈ gTw := (gTw_4 233 (by decide +kernel) (by decide +kernel))
theorem mo_6 : gMok (yX0_tintAt, cX0_tintAt, 2, (some (FieldType.int)), some 0) 1 := ⟨(gTw_5 7 (by decide +kernel) (by decide +kernel)), (gTw_1 8 (by decide +kernel) (by decide +kernel)), ⟨by decide, by decide, by decide +kernel⟩, by decide⟩
theorem mt_6 : gMt[6]? = some (yX0_tintAt, cX0_tintAt, 2, (some (FieldType.int)), some 0) := gMtc_0 (j := 6) rfl
theorem sl_6 : Cond.selects yX0_tintAt.cls yX0_tintAt yX0_tintAt ∈ gTw := (gTw_5 6 (by decide +kernel) (by decide +kernel))
theorem im_6 : Cond.instanceMethod yX0_tintAt ∈ gTw := (gTw_5 5 (by decide +kernel) (by decide +kernel))
theorem mo_7 : gMok (yX0_save, cX0_save, 1, none, some 0) 0 := ⟨(gTw_5 192 (by decide +kernel) (by decide +kernel)), (gTw_1 8 (by decide +kernel) (by decide +kernel)), ⟨by decide, by decide, by decide +kernel⟩, by decide⟩
theorem mt_7 : gMt[7]? = some (yX0_save, cX0_save, 1, none, some 0) := gMtc_0 (j := 7) rfl
theorem sl_7 : Cond.selects yX0_save.cls yX0_save yX0_save ∈ gTw := (gTw_5 191 (by decide +kernel) (by decide +kernel))
theorem im_7 : Cond.instanceMethod yX0_save ∈ gTw := (gTw_5 190 (by decide +kernel) (by decide +kernel))
theorem mo_8 : gMok (yX0_restore, cX0_restore, 1, none, some 0) 0 := ⟨(gTw_5 209 (by decide +kernel) (by decide +kernel)), (gTw_1 8 (by decide +kernel) (by decide +kernel)), ⟨by decide, by decide, by decide +kernel⟩, by decide⟩
theorem mt_8 : gMt[8]? = some (yX0_restore, cX0_restore, 1, none, some 0) := gMtc_0 (j := 8) rfl
theorem sl_8 : Cond.selects yX0_restore.cls yX0_restore yX0_restore ∈ gTw := (gTw_5 208 (by decide +kernel) (by decide +kernel))
theorem im_8 : Cond.instanceMethod yX0_restore ∈ gTw := (gTw_5 207 (by decide +kernel) (by decide +kernel))
theorem mo_9 : gMok (yX0_comeIn, cX0_comeIn, 3, none, some 0) 2 := ⟨(gTw_4 211 (by decide +kernel) (by decide +kernel)), (gTw_1 8 (by decide +kernel) (by decide +kernel)), ⟨by decide, by decide, by decide +kernel⟩, by decide⟩
theorem mt_9 : gMt[9]? = some (yX0_comeIn, cX0_comeIn, 3, none, some 0) := gMtc_0 (j := 9) rfl
theorem sl_9 : Cond.selects yX0_comeIn.cls yX0_comeIn yX0_comeIn ∈ gTw := (gTw_p 36 (by decide +kernel) (by decide +kernel))
theorem im_9 : Cond.instanceMethod yX0_comeIn ∈ gTw := (gTw_4 210 (by decide +kernel) (by decide +kernel))
theorem mo_10 : gMok (yX0_renew, cX0_renew, 3, none, some 0) 2 := ⟨(gTw_4 227 (by decide +kernel) (by decide +kernel)), (gTw_1 8 (by decide +kernel) (by decide +kernel)), ⟨by decide, by decide, by decide +kernel⟩, by decide⟩
theorem mt_10 : gMt[10]? = some (yX0_renew, cX0_renew, 3, none, some 0) := gMtc_0 (j := 10) rfl
theorem sl_10 : Cond.selects yX0_renew.cls yX0_renew yX0_renew ∈ gTw := (gTw_p 40 (by decide +kernel) (by decide +kernel))
theorem im_10 : Cond.instanceMethod yX0_renew ∈ gTw := (gTw_4 226 (by decide +kernel) (by decide +kernel))
theorem mo_11 : gMok (yX0_buy, cX0_buy, 4, none, some 0) 2 := ⟨(gTw_4 215 (by decide +kernel) (by decide +kernel)), (gTw_1 8 (by decide +kernel) (by decide +kernel)), ⟨by decide, by decide, by decide +kernel⟩, by decide⟩
theorem mt_11 : gMt[11]? = some (yX0_buy, cX0_buy, 4, none, some 0) := gMtc_0 (j := 11) rfl
theorem sl_11 : Cond.selects yX0_buy.cls yX0_buy yX0_buy ∈ gTw := (gTw_p 37 (by decide +kernel) (by decide +kernel))
theorem im_11 : Cond.instanceMethod yX0_buy ∈ gTw := (gTw_4 214 (by decide +kernel) (by decide +kernel))
theorem mo_12 : gMok (yX0_pickColour, cX0_pickColour, 7, (some (FieldType.int)), some 0) 1 := ⟨(gTw_4 219 (by decide +kernel) (by decide +kernel)), (gTw_1 8 (by decide +kernel) (by decide +kernel)), ⟨by decide, by decide, by decide +kernel⟩, by decide⟩
theorem mt_12 : gMt[12]? = some (yX0_pickColour, cX0_pickColour, 7, (some (FieldType.int)), some 0) := gMtc_0 (j := 12) rfl
theorem sl_12 : Cond.selects yX0_pickColour.cls yX0_pickColour yX0_pickColour ∈ gTw := (gTw_p 38 (by decide +kernel) (by decide +kernel))
theorem im_12 : Cond.instanceMethod yX0_pickColour ∈ gTw := (gTw_4 218 (by decide +kernel) (by decide +kernel))
theorem mo_13 : gMok (yX0_lift, cX0_lift, 2, none, some 0) 1 := ⟨(gTw_4 231 (by decide +kernel) (by decide +kernel)), (gTw_1 8 (by decide +kernel) (by decide +kernel)), ⟨by decide, by decide, by decide +kernel⟩, by decide⟩
theorem mt_13 : gMt[13]? = some (yX0_lift, cX0_lift, 2, none, some 0) := gMtc_0 (j := 13) rfl
theorem sl_13 : Cond.selects yX0_lift.cls yX0_lift yX0_lift ∈ gTw := (gTw_p 41 (by decide +kernel) (by decide +kernel))
theorem im_13 : Cond.instanceMethod yX0_lift ∈ gTw := (gTw_4 230 (by decide +kernel) (by decide +kernel))
theorem mo_14 : gMok (yX0_standSomewhere, cX0_standSomewhere, 3, none, some 0) 1 := ⟨(gTw_4 223 (by decide +kernel) (by decide +kernel)), (gTw_1 8 (by decide +kernel) (by decide +kernel)), ⟨by decide, by decide, by decide +kernel⟩, by decide⟩
theorem mt_14 : gMt[14]? = some (yX0_standSomewhere, cX0_standSomewhere, 3, none, some 0) := gMtc_0 (j := 14) rfl
theorem sl_14 : Cond.selects yX0_standSomewhere.cls yX0_standSomewhere yX0_standSomewhere ∈ gTw := (gTw_p 39 (by decide +kernel) (by decide +kernel))
theorem im_14 : Cond.instanceMethod yX0_standSomewhere ∈ gTw := (gTw_4 222 (by decide +kernel) (by decide +kernel))
theorem mo_15 : gMok (yX0_chosen, cX0_chosen, 4, (some (FieldType.int)), some 0) 1 := ⟨(gTw_5 3 (by decide +kernel) (by decide +kernel)), (gTw_1 8 (by decide +kernel) (by decide +kernel)), ⟨by decide, by decide, by decide +kernel⟩, by decide⟩
theorem mt_15 : gMt[15]? = some (yX0_chosen, cX0_chosen, 4, (some (FieldType.int)), some 0) := gMtc_0 (j := 15) rfl
theorem sl_15 : Cond.selects yX0_chosen.cls yX0_chosen yX0_chosen ∈ gTw := (gTw_p 42 (by decide +kernel) (by decide +kernel))
theorem im_15 : Cond.instanceMethod yX0_chosen ∈ gTw := (gTw_5 2 (by decide +kernel) (by decide +kernel))
theorem mo_16 : gMok (yX1_init, cX1_init, 2, none, some 1) 1 := ⟨(gTw_2 178 (by decide +kernel) (by decide +kernel)), (gTw_1 7 (by decide +kernel) (by decide +kernel)), ⟨by decide, by decide, by decide +kernel⟩, by decide⟩
theorem mt_16 : gMt[16]? = some (yX1_init, cX1_init, 2, none, some 1) := gMtc_0 (j := 16) rfl
theorem im_16 : Cond.instanceMethod yX1_init ∈ gTw := (gTw_2 177 (by decide +kernel) (by decide +kernel))
theorem mo_17 : gMok (yX1_write, cX1_write, 4, none, some 1) 2 := ⟨(gTw_4 197 (by decide +kernel) (by decide +kernel)), (gTw_1 7 (by decide +kernel) (by decide +kernel)), ⟨by decide, by decide, by decide +kernel⟩, by decide⟩
theorem mt_17 : gMt[17]? = some (yX1_write, cX1_write, 4, none, some 1) := gMtc_0 (j := 17) rfl
theorem sl_17 : Cond.selects yX1_write.cls yX1_write yX1_write ∈ gTw := (gTw_4 196 (by decide +kernel) (by decide +kernel))
theorem im_17 : Cond.instanceMethod yX1_write ∈ gTw := (gTw_4 195 (by decide +kernel) (by decide +kernel))
theorem mo_18 : gMok (yX1_brushAt, cX1_brushAt, 3, (some (FieldType.int)), some 1) 2 := ⟨(gTw_5 40 (by decide +kernel) (by decide +kernel)), (gTw_1 7 (by decide +kernel) (by decide +kernel)), ⟨by decide, by decide, by decide +kernel⟩, by decide⟩
theorem mt_18 : gMt[18]? = some (yX1_brushAt, cX1_brushAt, 3, (some (FieldType.int)), some 1) := gMtc_0 (j := 18) rfl
theorem sl_18 : Cond.selects yX1_brushAt.cls yX1_brushAt yX1_brushAt ∈ gTw := (gTw_5 39 (by decide +kernel) (by decide +kernel))
theorem im_18 : Cond.instanceMethod yX1_brushAt ∈ gTw := (gTw_5 38 (by decide +kernel) (by decide +kernel))
theorem mo_19 : gMok (yX1_tintAt, cX1_tintAt, 4, (some (FieldType.int)), some 1) 2 := ⟨(gTw_5 48 (by decide +kernel) (by decide +kernel)), (gTw_1 7 (by decide +kernel) (by decide +kernel)), ⟨by decide, by decide, by decide +kernel⟩, by decide⟩
theorem mt_19 : gMt[19]? = some (yX1_tintAt, cX1_tintAt, 4, (some (FieldType.int)), some 1) := gMtc_0 (j := 19) rfl
theorem sl_19 : Cond.selects yX1_tintAt.cls yX1_tintAt yX1_tintAt ∈ gTw := (gTw_5 47 (by decide +kernel) (by decide +kernel))
theorem im_19 : Cond.instanceMethod yX1_tintAt ∈ gTw := (gTw_5 46 (by decide +kernel) (by decide +kernel))
theorem mo_20 : gMok (yX1_spotOf, cX1_spotOf, 3, (some (FieldType.int)), some 1) 2 := ⟨(gTw_5 69 (by decide +kernel) (by decide +kernel)), (gTw_1 7 (by decide +kernel) (by decide +kernel)), ⟨by decide, by decide, by decide +kernel⟩, by decide⟩
theorem mt_20 : gMt[20]? = some (yX1_spotOf, cX1_spotOf, 3, (some (FieldType.int)), some 1) := gMtc_0 (j := 20) rfl
theorem sl_20 : Cond.selects yX1_spotOf.cls yX1_spotOf yX1_spotOf ∈ gTw := (gTw_5 68 (by decide +kernel) (by decide +kernel))
theorem im_20 : Cond.instanceMethod yX1_spotOf ∈ gTw := (gTw_5 67 (by decide +kernel) (by decide +kernel))
theorem mo_21 : gMok (yX1_usedBy, cX1_usedBy, 3, (some (FieldType.int)), some 1) 2 := ⟨(gTw_5 85 (by decide +kernel) (by decide +kernel)), (gTw_1 7 (by decide +kernel) (by decide +kernel)), ⟨by decide, by decide, by decide +kernel⟩, by decide⟩
theorem mt_21 : gMt[21]? = some (yX1_usedBy, cX1_usedBy, 3, (some (FieldType.int)), some 1) := gMtc_0 (j := 21) rfl
theorem sl_21 : Cond.selects yX1_usedBy.cls yX1_usedBy yX1_usedBy ∈ gTw := (gTw_5 84 (by decide +kernel) (by decide +kernel))
theorem im_21 : Cond.instanceMethod yX1_usedBy ∈ gTw := (gTw_5 83 (by decide +kernel) (by decide +kernel))
theorem mo_22 : gMok (yX1_wrongPlace, cX1_wrongPlace, 4, (some (FieldType.int)), some 1) 2 := ⟨(gTw_5 169 (by decide +kernel) (by decide +kernel)), (gTw_1 7 (by decide +kernel) (by decide +kernel)), ⟨by decide, by decide, by decide +kernel⟩, by decide⟩
theorem mt_22 : gMt[22]? = some (yX1_wrongPlace, cX1_wrongPlace, 4, (some (FieldType.int)), some 1) := gMtc_0 (j := 22) rfl
theorem sl_22 : Cond.selects yX1_wrongPlace.cls yX1_wrongPlace yX1_wrongPlace ∈ gTw := (gTw_5 168 (by decide +kernel) (by decide +kernel))
theorem im_22 : Cond.instanceMethod yX1_wrongPlace ∈ gTw := (gTw_5 167 (by decide +kernel) (by decide +kernel))
theorem mo_23 : gMok (yX1_notePlaces, cX1_notePlaces, 7, none, some 1) 2 := ⟨(gTw_5 11 (by decide +kernel) (by decide +kernel)), (gTw_1 7 (by decide +kernel) (by decide +kernel)), ⟨by decide, by decide, by decide +kernel⟩, by decide⟩
theorem mt_23 : gMt[23]? = some (yX1_notePlaces, cX1_notePlaces, 7, none, some 1) := gMtc_0 (j := 23) rfl
theorem sl_23 : Cond.selects yX1_notePlaces.cls yX1_notePlaces yX1_notePlaces ∈ gTw := (gTw_p 43 (by decide +kernel) (by decide +kernel))
theorem im_23 : Cond.instanceMethod yX1_notePlaces ∈ gTw := (gTw_5 10 (by decide +kernel) (by decide +kernel))
theorem mo_24 : gMok (yX1_notePeople, cX1_notePeople, 6, none, some 1) 2 := ⟨(gTw_5 16 (by decide +kernel) (by decide +kernel)), (gTw_1 7 (by decide +kernel) (by decide +kernel)), ⟨by decide, by decide, by decide +kernel⟩, by decide⟩
theorem mt_24 : gMt[24]? = some (yX1_notePeople, cX1_notePeople, 6, none, some 1) := gMtc_0 (j := 24) rfl
theorem sl_24 : Cond.selects yX1_notePeople.cls yX1_notePeople yX1_notePeople ∈ gTw := (gTw_p 44 (by decide +kernel) (by decide +kernel))
theorem im_24 : Cond.instanceMethod yX1_notePeople ∈ gTw := (gTw_5 15 (by decide +kernel) (by decide +kernel))
theorem mo_25 : gMok (yX2_init, cX2_init, 1, none, some 2) 0 := ⟨(gTw_3 57 (by decide +kernel) (by decide +kernel)), (gTw_1 12 (by decide +kernel) (by decide +kernel)), ⟨by decide, by decide, by decide +kernel⟩, by decide⟩
theorem mt_25 : gMt[25]? = some (yX2_init, cX2_init, 1, none, some 2) := gMtc_0 (j := 25) rfl
theorem im_25 : Cond.instanceMethod yX2_init ∈ gTw := (gTw_3 56 (by decide +kernel) (by decide +kernel))
theorem mo_26 : gMok (yX2_after, cX2_after, 8, none, some 2) 3 := ⟨(gTw_6 34 (by decide +kernel) (by decide +kernel)), (gTw_1 12 (by decide +kernel) (by decide +kernel)), ⟨by decide, by decide, by decide +kernel⟩, by decide⟩
theorem mt_26 : gMt[26]? = some (yX2_after, cX2_after, 8, none, some 2) := gMtc_0 (j := 26) rfl
theorem sl_26 : Cond.selects yX2_after.cls yX2_after yX2_after ∈ gTw := (gTw_6 33 (by decide +kernel) (by decide +kernel))
theorem im_26 : Cond.instanceMethod yX2_after ∈ gTw := (gTw_6 32 (by decide +kernel) (by decide +kernel))
theorem mo_27 : gMok (yX2_reachIn, cX2_reachIn, 8, none, some 2) 2 := ⟨(gTw_6 42 (by decide +kernel) (by decide +kernel)), (gTw_1 12 (by decide +kernel) (by decide +kernel)), ⟨by decide, by decide, by decide +kernel⟩, by decide⟩
theorem mt_27 : gMt[27]? = some (yX2_reachIn, cX2_reachIn, 8, none, some 2) := gMtc_0 (j := 27) rfl
theorem sl_27 : Cond.selects yX2_reachIn.cls yX2_reachIn yX2_reachIn ∈ gTw := (gTw_p 55 (by decide +kernel) (by decide +kernel))
theorem im_27 : Cond.instanceMethod yX2_reachIn ∈ gTw := (gTw_6 41 (by decide +kernel) (by decide +kernel))
theorem mo_28 : gMok (yX2_commonDivisor, cX2_commonDivisor, 11, (some (FieldType.long)), none) 2 := ⟨(gTw_6 46 (by decide +kernel) (by decide +kernel)), (gTw_1 12 (by decide +kernel) (by decide +kernel)), ⟨by decide, by decide, by decide +kernel⟩, by decide⟩
theorem mt_28 : gMt[28]? = some (yX2_commonDivisor, cX2_commonDivisor, 11, (some (FieldType.long)), none) := gMtc_0 (j := 28) rfl
theorem sm_28 : Cond.static yX2_commonDivisor ∈ gTw := (gTw_6 45 (by decide +kernel) (by decide +kernel))
theorem mo_29 : gMok (yX3_init, cX3_init, 2, none, some 3) 1 := ⟨(gTw_2 233 (by decide +kernel) (by decide +kernel)), (gTw_1 9 (by decide +kernel) (by decide +kernel)), ⟨by decide, by decide, by decide +kernel⟩, by decide⟩
theorem mt_29 : gMt[29]? = some (yX3_init, cX3_init, 2, none, some 3) := gMtc_0 (j := 29) rfl
theorem im_29 : Cond.instanceMethod yX3_init ∈ gTw := (gTw_2 232 (by decide +kernel) (by decide +kernel))
theorem mo_30 : gMok (yX3_search, cX3_search, 7, none, some 3) 2 := ⟨(gTw_5 182 (by decide +kernel) (by decide +kernel)), (gTw_1 9 (by decide +kernel) (by decide +kernel)), ⟨by decide, by decide, by decide +kernel⟩, by decide⟩
theorem mt_30 : gMt[30]? = some (yX3_search, cX3_search, 7, none, some 3) := gMtc_0 (j := 30) rfl
theorem sl_30 : Cond.selects yX3_search.cls yX3_search yX3_search ∈ gTw := (gTw_5 181 (by decide +kernel) (by decide +kernel))
theorem im_30 : Cond.instanceMethod yX3_search ∈ gTw := (gTw_5 180 (by decide +kernel) (by decide +kernel))
theorem mo_31 : gMok (yX3_part, cX3_part, 4, (some (FieldType.int)), some 3) 2 := ⟨(gTw_5 217 (by decide +kernel) (by decide +kernel)), (gTw_1 9 (by decide +kernel) (by decide +kernel)), ⟨by decide, by decide, by decide +kernel⟩, by decide⟩
theorem mt_31 : gMt[31]? = some (yX3_part, cX3_part, 4, (some (FieldType.int)), some 3) := gMtc_0 (j := 31) rfl
theorem sl_31 : Cond.selects yX3_part.cls yX3_part yX3_part ∈ gTw := (gTw_5 216 (by decide +kernel) (by decide +kernel))
theorem im_31 : Cond.instanceMethod yX3_part ∈ gTw := (gTw_5 215 (by decide +kernel) (by decide +kernel))
theorem mo_32 : gMok (yX3_endsRight, cX3_endsRight, 5, (some (FieldType.boolean)), some 3) 3 := ⟨(gTw_5 198 (by decide +kernel) (by decide +kernel)), (gTw_1 9 (by decide +kernel) (by decide +kernel)), ⟨by decide, by decide, by decide +kernel⟩, by decide⟩
theorem mt_32 : gMt[32]? = some (yX3_endsRight, cX3_endsRight, 5, (some (FieldType.boolean)), some 3) := gMtc_0 (j := 32) rfl
theorem sl_32 : Cond.selects yX3_endsRight.cls yX3_endsRight yX3_endsRight ∈ gTw := (gTw_p 52 (by decide +kernel) (by decide +kernel))
theorem im_32 : Cond.instanceMethod yX3_endsRight ∈ gTw := (gTw_5 197 (by decide +kernel) (by decide +kernel))
theorem mo_33 : gMok (yX3_isRight, cX3_isRight, 5, (some (FieldType.boolean)), some 3) 2 := ⟨(gTw_5 203 (by decide +kernel) (by decide +kernel)), (gTw_1 9 (by decide +kernel) (by decide +kernel)), ⟨by decide, by decide, by decide +kernel⟩, by decide⟩
theorem mt_33 : gMt[33]? = some (yX3_isRight, cX3_isRight, 5, (some (FieldType.boolean)), some 3) := gMtc_0 (j := 33) rfl
theorem sl_33 : Cond.selects yX3_isRight.cls yX3_isRight yX3_isRight ∈ gTw := (gTw_p 53 (by decide +kernel) (by decide +kernel))
theorem im_33 : Cond.instanceMethod yX3_isRight ∈ gTw := (gTw_5 202 (by decide +kernel) (by decide +kernel))
theorem mo_34 : gMok (yX4_init, cX4_init, 2, none, some 4) 0 := ⟨(gTw_1 39 (by decide +kernel) (by decide +kernel)), (gTw_1 2 (by decide +kernel) (by decide +kernel)), ⟨by decide, by decide, by decide +kernel⟩, by decide⟩
theorem mt_34 : gMt[34]? = some (yX4_init, cX4_init, 2, none, some 4) := gMtc_0 (j := 34) rfl
theorem im_34 : Cond.instanceMethod yX4_init ∈ gTw := (gTw_1 38 (by decide +kernel) (by decide +kernel))
theorem mo_35 : gMok (yX4_clear, cX4_clear, 1, none, some 4) 0 := ⟨(gTw_3 150 (by decide +kernel) (by decide +kernel)), (gTw_1 2 (by decide +kernel) (by decide +kernel)), ⟨by decide, by decide, by decide +kernel⟩, by decide⟩
theorem mt_35 : gMt[35]? = some (yX4_clear, cX4_clear, 1, none, some 4) := gMtc_0 (j := 35) rfl
theorem sl_35 : Cond.selects yX4_clear.cls yX4_clear yX4_clear ∈ gTw := (gTw_3 149 (by decide +kernel) (by decide +kernel))
theorem im_35 : Cond.instanceMethod yX4_clear ∈ gTw := (gTw_3 148 (by decide +kernel) (by decide +kernel))
theorem mo_36 : gMok (yX4_addStay, cX4_addStay, 6, none, some 4) 3 := ⟨(gTw_4 83 (by decide +kernel) (by decide +kernel)), (gTw_1 2 (by decide +kernel) (by decide +kernel)), ⟨by decide, by decide, by decide +kernel⟩, by decide⟩
theorem mt_36 : gMt[36]? = some (yX4_addStay, cX4_addStay, 6, none, some 4) := gMtc_0 (j := 36) rfl
theorem sl_36 : Cond.selects yX4_addStay.cls yX4_addStay yX4_addStay ∈ gTw := (gTw_4 82 (by decide +kernel) (by decide +kernel))
theorem im_36 : Cond.instanceMethod yX4_addStay ∈ gTw := (gTw_4 81 (by decide +kernel) (by decide +kernel))
theorem mo_37 : gMok (yX4_crowd, cX4_crowd, 3, (some (FieldType.int)), some 4) 0 := ⟨(gTw_4 111 (by decide +kernel) (by decide +kernel)), (gTw_1 2 (by decide +kernel) (by decide +kernel)), ⟨by decide, by decide, by decide +kernel⟩, by decide⟩
theorem mt_37 : gMt[37]? = some (yX4_crowd, cX4_crowd, 3, (some (FieldType.int)), some 4) := gMtc_0 (j := 37) rfl
theorem sl_37 : Cond.selects yX4_crowd.cls yX4_crowd yX4_crowd ∈ gTw := (gTw_4 110 (by decide +kernel) (by decide +kernel))
theorem im_37 : Cond.instanceMethod yX4_crowd ∈ gTw := (gTw_4 109 (by decide +kernel) (by decide +kernel))
theorem mo_38 : gMok (yX4_lastSeenDay, cX4_lastSeenDay, 3, (some (FieldType.int)), some 4) 0 := ⟨(gTw_5 187 (by decide +kernel) (by decide +kernel)), (gTw_1 2 (by decide +kernel) (by decide +kernel)), ⟨by decide, by decide, by decide +kernel⟩, by decide⟩
theorem mt_38 : gMt[38]? = some (yX4_lastSeenDay, cX4_lastSeenDay, 3, (some (FieldType.int)), some 4) := gMtc_0 (j := 38) rfl
theorem sl_38 : Cond.selects yX4_lastSeenDay.cls yX4_lastSeenDay yX4_lastSeenDay ∈ gTw := (gTw_5 186 (by decide +kernel) (by decide +kernel))
theorem im_38 : Cond.instanceMethod yX4_lastSeenDay ∈ gTw := (gTw_5 185 (by decide +kernel) (by decide +kernel))
theorem mo_39 : gMok (yX5_init, cX5_init, 2, none, some 5) 0 := ⟨(gTw_2 85 (by decide +kernel) (by decide +kernel)), (gTw_1 6 (by decide +kernel) (by decide +kernel)), ⟨by decide, by decide, by decide +kernel⟩, by decide⟩
theorem mt_39 : gMt[39]? = some (yX5_init, cX5_init, 2, none, some 5) := gMtc_0 (j := 39) rfl
theorem im_39 : Cond.instanceMethod yX5_init ∈ gTw := (gTw_2 84 (by decide +kernel) (by decide +kernel))
theorem mo_40 : gMok (yX5_forget, cX5_forget, 1, none, some 5) 0 := ⟨(gTw_4 103 (by decide +kernel) (by decide +kernel)), (gTw_1 6 (by decide +kernel) (by decide +kernel)), ⟨by decide, by decide, by decide +kernel⟩, by decide⟩
theorem mt_40 : gMt[40]? = some (yX5_forget, cX5_forget, 1, none, some 5) := gMtc_1 (j := 0) rfl
theorem sl_40 : Cond.selects yX5_forget.cls yX5_forget yX5_forget ∈ gTw := (gTw_4 102 (by decide +kernel) (by decide +kernel))
theorem im_40 : Cond.instanceMethod yX5_forget ∈ gTw := (gTw_4 101 (by decide +kernel) (by decide +kernel))
theorem mo_41 : gMok (yX5_keepAhead, cX5_keepAhead, 2, none, some 5) 1 := ⟨(gTw_6 58 (by decide +kernel) (by decide +kernel)), (gTw_1 6 (by decide +kernel) (by decide +kernel)), ⟨by decide, by decide, by decide +kernel⟩, by decide⟩
theorem mt_41 : gMt[41]? = some (yX5_keepAhead, cX5_keepAhead, 2, none, some 5) := gMtc_1 (j := 1) rfl
theorem sl_41 : Cond.selects yX5_keepAhead.cls yX5_keepAhead yX5_keepAhead ∈ gTw := (gTw_6 57 (by decide +kernel) (by decide +kernel))
theorem im_41 : Cond.instanceMethod yX5_keepAhead ∈ gTw := (gTw_6 56 (by decide +kernel) (by decide +kernel))
theorem mo_42 : gMok (yX5_takeBack, cX5_takeBack, 2, none, some 5) 1 := ⟨(gTw_6 102 (by decide +kernel) (by decide +kernel)), (gTw_1 6 (by decide +kernel) (by decide +kernel)), ⟨by decide, by decide, by decide +kernel⟩, by decide⟩
theorem mt_42 : gMt[42]? = some (yX5_takeBack, cX5_takeBack, 2, none, some 5) := gMtc_1 (j := 2) rfl
theorem sl_42 : Cond.selects yX5_takeBack.cls yX5_takeBack yX5_takeBack ∈ gTw := (gTw_6 101 (by decide +kernel) (by decide +kernel))
theorem im_42 : Cond.instanceMethod yX5_takeBack ∈ gTw := (gTw_6 100 (by decide +kernel) (by decide +kernel))
theorem mo_43 : gMok (yX5_setMark, cX5_setMark, 2, (some (FieldType.int)), some 5) 1 := ⟨(gTw_6 110 (by decide +kernel) (by decide +kernel)), (gTw_1 6 (by decide +kernel) (by decide +kernel)), ⟨by decide, by decide, by decide +kernel⟩, by decide⟩
theorem mt_43 : gMt[43]? = some (yX5_setMark, cX5_setMark, 2, (some (FieldType.int)), some 5) := gMtc_1 (j := 3) rfl
theorem sl_43 : Cond.selects yX5_setMark.cls yX5_setMark yX5_setMark ∈ gTw := (gTw_6 109 (by decide +kernel) (by decide +kernel))
theorem im_43 : Cond.instanceMethod yX5_setMark ∈ gTw := (gTw_6 108 (by decide +kernel) (by decide +kernel))
theorem mo_44 : gMok (yX5_goBack, cX5_goBack, 3, none, some 5) 2 := ⟨(gTw_6 118 (by decide +kernel) (by decide +kernel)), (gTw_1 6 (by decide +kernel) (by decide +kernel)), ⟨by decide, by decide, by decide +kernel⟩, by decide⟩
theorem mt_44 : gMt[44]? = some (yX5_goBack, cX5_goBack, 3, none, some 5) := gMtc_1 (j := 4) rfl
theorem sl_44 : Cond.selects yX5_goBack.cls yX5_goBack yX5_goBack ∈ gTw := (gTw_6 117 (by decide +kernel) (by decide +kernel))
theorem im_44 : Cond.instanceMethod yX5_goBack ∈ gTw := (gTw_6 116 (by decide +kernel) (by decide +kernel))
theorem mo_45 : gMok (yX6_init, cX6_init, 1, none, some 6) 0 := ⟨(gTw_3 39 (by decide +kernel) (by decide +kernel)), (gTw_1 11 (by decide +kernel) (by decide +kernel)), ⟨by decide, by decide, by decide +kernel⟩, by decide⟩
theorem mt_45 : gMt[45]? = some (yX6_init, cX6_init, 1, none, some 6) := gMtc_1 (j := 5) rfl
theorem im_45 : Cond.instanceMethod yX6_init ∈ gTw := (gTw_3 38 (by decide +kernel) (by decide +kernel))
theorem mo_46 : gMok (yX6_paint, cX6_paint, 4, none, some 6) 1 := ⟨(gTw_4 107 (by decide +kernel) (by decide +kernel)), (gTw_1 11 (by decide +kernel) (by decide +kernel)), ⟨by decide, by decide, by decide +kernel⟩, by decide⟩
theorem mt_46 : gMt[46]? = some (yX6_paint, cX6_paint, 4, none, some 6) := gMtc_1 (j := 6) rfl
theorem sl_46 : Cond.selects yX6_paint.cls yX6_paint yX6_paint ∈ gTw := (gTw_4 106 (by decide +kernel) (by decide +kernel))
theorem im_46 : Cond.instanceMethod yX6_paint ∈ gTw := (gTw_4 105 (by decide +kernel) (by decide +kernel))
theorem mo_47 : gMok (yX6_finish, cX6_finish, 8, (some (FieldType.boolean)), none) 5 := ⟨(gTw_4 124 (by decide +kernel) (by decide +kernel)), (gTw_1 11 (by decide +kernel) (by decide +kernel)), ⟨by decide, by decide, by decide +kernel⟩, by decide⟩
theorem mt_47 : gMt[47]? = some (yX6_finish, cX6_finish, 8, (some (FieldType.boolean)), none) := gMtc_1 (j := 7) rfl
theorem sm_47 : Cond.static yX6_finish ∈ gTw := (gTw_4 123 (by decide +kernel) (by decide +kernel))
theorem mo_48 : gMok (yX7_init, cX7_init, 1, none, some 7) 0 := ⟨(gTw_3 14 (by decide +kernel) (by decide +kernel)), (gTw_1 10 (by decide +kernel) (by decide +kernel)), ⟨by decide, by decide, by decide +kernel⟩, by decide⟩
theorem mt_48 : gMt[48]? = some (yX7_init, cX7_init, 1, none, some 7) := gMtc_1 (j := 8) rfl
theorem im_48 : Cond.instanceMethod yX7_init ∈ gTw := (gTw_3 13 (by decide +kernel) (by decide +kernel))
theorem mo_49 : gMok (yX7_gather, cX7_gather, 7, none, some 7) 3 := ⟨(gTw_5 237 (by decide +kernel) (by decide +kernel)), (gTw_1 10 (by decide +kernel) (by decide +kernel)), ⟨by decide, by decide, by decide +kernel⟩, by decide⟩
theorem mt_49 : gMt[49]? = some (yX7_gather, cX7_gather, 7, none, some 7) := gMtc_1 (j := 9) rfl
theorem sl_49 : Cond.selects yX7_gather.cls yX7_gather yX7_gather ∈ gTw := (gTw_5 236 (by decide +kernel) (by decide +kernel))
theorem im_49 : Cond.instanceMethod yX7_gather ∈ gTw := (gTw_5 235 (by decide +kernel) (by decide +kernel))
theorem mo_50 : gMok (yX7_count, cX7_count, 7, (some (FieldType.int)), some 7) 1 := ⟨(gTw_6 4 (by decide +kernel) (by decide +kernel)), (gTw_1 10 (by decide +kernel) (by decide +kernel)), ⟨by decide, by decide, by decide +kernel⟩, by decide⟩
theorem mt_50 : gMt[50]? = some (yX7_count, cX7_count, 7, (some (FieldType.int)), some 7) := gMtc_1 (j := 10) rfl
theorem sl_50 : Cond.selects yX7_count.cls yX7_count yX7_count ∈ gTw := (gTw_6 3 (by decide +kernel) (by decide +kernel))
theorem im_50 : Cond.instanceMethod yX7_count ∈ gTw := (gTw_6 2 (by decide +kernel) (by decide +kernel))
theorem mo_51 : gMok (yX7_possible, cX7_possible, 6, (some (FieldType.int)), some 7) 1 := ⟨(gTw_6 13 (by decide +kernel) (by decide +kernel)), (gTw_1 10 (by decide +kernel) (by decide +kernel)), ⟨by decide, by decide, by decide +kernel⟩, by decide⟩
theorem mt_51 : gMt[51]? = some (yX7_possible, cX7_possible, 6, (some (FieldType.int)), some 7) := gMtc_1 (j := 11) rfl
theorem sl_51 : Cond.selects yX7_possible.cls yX7_possible yX7_possible ∈ gTw := (gTw_6 12 (by decide +kernel) (by decide +kernel))
theorem im_51 : Cond.instanceMethod yX7_possible ∈ gTw := (gTw_6 11 (by decide +kernel) (by decide +kernel))
theorem mo_52 : gMok (yX7_fewestToAsk, cX7_fewestToAsk, 4, (some (FieldType.int)), some 7) 0 := ⟨(gTw_6 26 (by decide +kernel) (by decide +kernel)), (gTw_1 10 (by decide +kernel) (by decide +kernel)), ⟨by decide, by decide, by decide +kernel⟩, by decide⟩
theorem mt_52 : gMt[52]? = some (yX7_fewestToAsk, cX7_fewestToAsk, 4, (some (FieldType.int)), some 7) := gMtc_1 (j := 12) rfl
theorem sl_52 : Cond.selects yX7_fewestToAsk.cls yX7_fewestToAsk yX7_fewestToAsk ∈ gTw := (gTw_6 25 (by decide +kernel) (by decide +kernel))
theorem im_52 : Cond.instanceMethod yX7_fewestToAsk ∈ gTw := (gTw_6 24 (by decide +kernel) (by decide +kernel))
theorem mo_53 : gMok (yX8_init, cX8_init, 1, none, some 8) 0 := ⟨(gTw_1 46 (by decide +kernel) (by decide +kernel)), (gTw_1 3 (by decide +kernel) (by decide +kernel)), ⟨by decide, by decide, by decide +kernel⟩, by decide⟩
theorem mt_53 : gMt[53]? = some (yX8_init, cX8_init, 1, none, some 8) := gMtc_1 (j := 13) rfl
theorem im_53 : Cond.instanceMethod yX8_init ∈ gTw := (gTw_1 45 (by decide +kernel) (by decide +kernel))
theorem mo_54 : gMok (yX8_isLiked, cX8_isLiked, 3, (some (FieldType.boolean)), some 8) 1 := ⟨(gTw_4 61 (by decide +kernel) (by decide +kernel)), (gTw_1 3 (by decide +kernel) (by decide +kernel)), ⟨by decide, by decide, by decide +kernel⟩, by decide⟩
theorem mt_54 : gMt[54]? = some (yX8_isLiked, cX8_isLiked, 3, (some (FieldType.boolean)), some 8) := gMtc_1 (j := 14) rfl
theorem sl_54 : Cond.selects yX8_isLiked.cls yX8_isLiked yX8_isLiked ∈ gTw := (gTw_4 60 (by decide +kernel) (by decide +kernel))
theorem im_54 : Cond.instanceMethod yX8_isLiked ∈ gTw := (gTw_4 59 (by decide +kernel) (by decide +kernel))
theorem mo_55 : gMok (yX9_init, cX9_init, 3, none, some 9) 2 := ⟨(gTw_2 0 (by decide +kernel) (by decide +kernel)), (gTw_1 4 (by decide +kernel) (by decide +kernel)), ⟨by decide, by decide, by decide +kernel⟩, by decide⟩
theorem mt_55 : gMt[55]? = some (yX9_init, cX9_init, 3, none, some 9) := gMtc_1 (j := 15) rfl
theorem im_55 : Cond.instanceMethod yX9_init ∈ gTw := (gTw_1 239 (by decide +kernel) (by decide +kernel))
theorem mo_56 : gMok (yX9_read, cX9_read, 4, (some (FieldType.boolean)), some 9) 2 := ⟨(gTw_3 143 (by decide +kernel) (by decide +kernel)), (gTw_1 4 (by decide +kernel) (by decide +kernel)), ⟨by decide, by decide, by decide +kernel⟩, by decide⟩
theorem mt_56 : gMt[56]? = some (yX9_read, cX9_read, 4, (some (FieldType.boolean)), some 9) := gMtc_1 (j := 16) rfl
theorem sl_56 : Cond.selects yX9_read.cls yX9_read yX9_read ∈ gTw := (gTw_3 142 (by decide +kernel) (by decide +kernel))
theorem im_56 : Cond.instanceMethod yX9_read ∈ gTw := (gTw_3 141 (by decide +kernel) (by decide +kernel))
theorem mo_57 : gMok (yX9_fail, cX9_fail, 2, (some (FieldType.boolean)), some 9) 1 := ⟨(gTw_3 235 (by decide +kernel) (by decide +kernel)), (gTw_1 4 (by decide +kernel) (by decide +kernel)), ⟨by decide, by decide, by decide +kernel⟩, by decide⟩
theorem mt_57 : gMt[57]? = some (yX9_fail, cX9_fail, 2, (some (FieldType.boolean)), some 9) := gMtc_1 (j := 17) rfl
theorem sl_57 : Cond.selects yX9_fail.cls yX9_fail yX9_fail ∈ gTw := (gTw_p 8 (by decide +kernel) (by decide +kernel))
theorem im_57 : Cond.instanceMethod yX9_fail ∈ gTw := (gTw_3 234 (by decide +kernel) (by decide +kernel))
theorem mo_58 : gMok (yX9_advance, cX9_advance, 2, none, some 9) 0 := ⟨(gTw_3 157 (by decide +kernel) (by decide +kernel)), (gTw_1 4 (by decide +kernel) (by decide +kernel)), ⟨by decide, by decide, by decide +kernel⟩, by decide⟩
theorem mt_58 : gMt[58]? = some (yX9_advance, cX9_advance, 2, none, some 9) := gMtc_1 (j := 18) rfl
theorem sl_58 : Cond.selects yX9_advance.cls yX9_advance yX9_advance ∈ gTw := (gTw_p 2 (by decide +kernel) (by decide +kernel))
theorem im_58 : Cond.instanceMethod yX9_advance ∈ gTw := (gTw_3 156 (by decide +kernel) (by decide +kernel))
theorem mo_59 : gMok (yX9_scan, cX9_scan, 3, (some (FieldType.int)), some 9) 2 := ⟨(gTw_3 161 (by decide +kernel) (by decide +kernel)), (gTw_1 4 (by decide +kernel) (by decide +kernel)), ⟨by decide, by decide, by decide +kernel⟩, by decide⟩
theorem mt_59 : gMt[59]? = some (yX9_scan, cX9_scan, 3, (some (FieldType.int)), some 9) := gMtc_1 (j := 19) rfl
theorem sl_59 : Cond.selects yX9_scan.cls yX9_scan yX9_scan ∈ gTw := (gTw_p 3 (by decide +kernel) (by decide +kernel))
theorem im_59 : Cond.instanceMethod yX9_scan ∈ gTw := (gTw_3 160 (by decide +kernel) (by decide +kernel))
theorem mo_60 : gMok (yX9_valueOfDigits, cX9_valueOfDigits, 3, (some (FieldType.int)), some 9) 0 := ⟨(gTw_3 165 (by decide +kernel) (by decide +kernel)), (gTw_1 4 (by decide +kernel) (by decide +kernel)), ⟨by decide, by decide, by decide +kernel⟩, by decide⟩
theorem mt_60 : gMt[60]? = some (yX9_valueOfDigits, cX9_valueOfDigits, 3, (some (FieldType.int)), some 9) := gMtc_1 (j := 20) rfl
theorem sl_60 : Cond.selects yX9_valueOfDigits.cls yX9_valueOfDigits yX9_valueOfDigits ∈ gTw := (gTw_p 4 (by decide +kernel) (by decide +kernel))
theorem im_60 : Cond.instanceMethod yX9_valueOfDigits ∈ gTw := (gTw_3 164 (by decide +kernel) (by decide +kernel))
theorem mo_61 : gMok (yX9_tokenIs, cX9_tokenIs, 3, (some (FieldType.boolean)), some 9) 1 := ⟨(gTw_3 178 (by decide +kernel) (by decide +kernel)), (gTw_1 4 (by decide +kernel) (by decide +kernel)), ⟨by decide, by decide, by decide +kernel⟩, by decide⟩
theorem mt_61 : gMt[61]? = some (yX9_tokenIs, cX9_tokenIs, 3, (some (FieldType.boolean)), some 9) := gMtc_1 (j := 21) rfl
theorem sl_61 : Cond.selects yX9_tokenIs.cls yX9_tokenIs yX9_tokenIs ∈ gTw := (gTw_p 7 (by decide +kernel) (by decide +kernel))
theorem im_61 : Cond.instanceMethod yX9_tokenIs ∈ gTw := (gTw_3 177 (by decide +kernel) (by decide +kernel))
theorem mo_62 : gMok (yX9_sortOfLine, cX9_sortOfLine, 1, (some (FieldType.int)), some 9) 0 := ⟨(gTw_3 173 (by decide +kernel) (by decide +kernel)), (gTw_1 4 (by decide +kernel) (by decide +kernel)), ⟨by decide, by decide, by decide +kernel⟩, by decide⟩
theorem mt_62 : gMt[62]? = some (yX9_sortOfLine, cX9_sortOfLine, 1, (some (FieldType.int)), some 9) := gMtc_1 (j := 22) rfl
theorem sl_62 : Cond.selects yX9_sortOfLine.cls yX9_sortOfLine yX9_sortOfLine ∈ gTw := (gTw_p 6 (by decide +kernel) (by decide +kernel))
theorem im_62 : Cond.instanceMethod yX9_sortOfLine ∈ gTw := (gTw_3 172 (by decide +kernel) (by decide +kernel))
theorem mo_63 : gMok (yX9_choice, cX9_choice, 5, (some (FieldType.int)), some 9) 4 := ⟨(gTw_4 43 (by decide +kernel) (by decide +kernel)), (gTw_1 4 (by decide +kernel) (by decide +kernel)), ⟨by decide, by decide, by decide +kernel⟩, by decide⟩
theorem mt_63 : gMt[63]? = some (yX9_choice, cX9_choice, 5, (some (FieldType.int)), some 9) := gMtc_1 (j := 23) rfl
theorem sl_63 : Cond.selects yX9_choice.cls yX9_choice yX9_choice ∈ gTw := (gTw_p 18 (by decide +kernel) (by decide +kernel))
theorem im_63 : Cond.instanceMethod yX9_choice ∈ gTw := (gTw_4 42 (by decide +kernel) (by decide +kernel))
theorem mo_64 : gMok (yX9_readLine, cX9_readLine, 2, (some (FieldType.boolean)), some 9) 0 := ⟨(gTw_3 169 (by decide +kernel) (by decide +kernel)), (gTw_1 4 (by decide +kernel) (by decide +kernel)), ⟨by decide, by decide, by decide +kernel⟩, by decide⟩
theorem mt_64 : gMt[64]? = some (yX9_readLine, cX9_readLine, 2, (some (FieldType.boolean)), some 9) := gMtc_1 (j := 24) rfl
theorem sl_64 : Cond.selects yX9_readLine.cls yX9_readLine yX9_readLine ∈ gTw := (gTw_p 5 (by decide +kernel) (by decide +kernel))
theorem im_64 : Cond.instanceMethod yX9_readLine ∈ gTw := (gTw_3 168 (by decide +kernel) (by decide +kernel))
theorem mo_65 : gMok (yX9_hasRoom, cX9_hasRoom, 2, (some (FieldType.boolean)), some 9) 1 := ⟨(gTw_3 239 (by decide +kernel) (by decide +kernel)), (gTw_1 4 (by decide +kernel) (by decide +kernel)), ⟨by decide, by decide, by decide +kernel⟩, by decide⟩
theorem mt_65 : gMt[65]? = some (yX9_hasRoom, cX9_hasRoom, 2, (some (FieldType.boolean)), some 9) := gMtc_1 (j := 25) rfl
theorem sl_65 : Cond.selects yX9_hasRoom.cls yX9_hasRoom yX9_hasRoom ∈ gTw := (gTw_p 9 (by decide +kernel) (by decide +kernel))
theorem im_65 : Cond.instanceMethod yX9_hasRoom ∈ gTw := (gTw_3 238 (by decide +kernel) (by decide +kernel))
theorem mo_66 : gMok (yX9_word, cX9_word, 2, (some (FieldType.boolean)), some 9) 1 := ⟨(gTw_4 8 (by decide +kernel) (by decide +kernel)), (gTw_1 4 (by decide +kernel) (by decide +kernel)), ⟨by decide, by decide, by decide +kernel⟩, by decide⟩
theorem mt_66 : gMt[66]? = some (yX9_word, cX9_word, 2, (some (FieldType.boolean)), some 9) := gMtc_1 (j := 26) rfl
theorem sl_66 : Cond.selects yX9_word.cls yX9_word yX9_word ∈ gTw := (gTw_p 11 (by decide +kernel) (by decide +kernel))
theorem im_66 : Cond.instanceMethod yX9_word ∈ gTw := (gTw_4 7 (by decide +kernel) (by decide +kernel))
theorem mo_67 : gMok (yX9_whole, cX9_whole, 3, (some (FieldType.boolean)), some 9) 2 := ⟨(gTw_4 12 (by decide +kernel) (by decide +kernel)), (gTw_1 4 (by decide +kernel) (by decide +kernel)), ⟨by decide, by decide, by decide +kernel⟩, by decide⟩
theorem mt_67 : gMt[67]? = some (yX9_whole, cX9_whole, 3, (some (FieldType.boolean)), some 9) := gMtc_1 (j := 27) rfl
theorem sl_67 : Cond.selects yX9_whole.cls yX9_whole yX9_whole ∈ gTw := (gTw_p 12 (by decide +kernel) (by decide +kernel))
theorem im_67 : Cond.instanceMethod yX9_whole ∈ gTw := (gTw_4 11 (by decide +kernel) (by decide +kernel))
theorem mo_68 : gMok (yX9_toldPerson, cX9_toldPerson, 2, (some (FieldType.int)), some 9) 0 := ⟨(gTw_4 27 (by decide +kernel) (by decide +kernel)), (gTw_1 4 (by decide +kernel) (by decide +kernel)), ⟨by decide, by decide, by decide +kernel⟩, by decide⟩
theorem mt_68 : gMt[68]? = some (yX9_toldPerson, cX9_toldPerson, 2, (some (FieldType.int)), some 9) := gMtc_1 (j := 28) rfl
theorem sl_68 : Cond.selects yX9_toldPerson.cls yX9_toldPerson yX9_toldPerson ∈ gTw := (gTw_p 15 (by decide +kernel) (by decide +kernel))
theorem im_68 : Cond.instanceMethod yX9_toldPerson ∈ gTw := (gTw_4 26 (by decide +kernel) (by decide +kernel))
theorem mo_69 : gMok (yX9_isNamed, cX9_isNamed, 3, (some (FieldType.boolean)), some 9) 1 := ⟨(gTw_4 31 (by decide +kernel) (by decide +kernel)), (gTw_1 4 (by decide +kernel) (by decide +kernel)), ⟨by decide, by decide, by decide +kernel⟩, by decide⟩
theorem mt_69 : gMt[69]? = some (yX9_isNamed, cX9_isNamed, 3, (some (FieldType.boolean)), some 9) := gMtc_1 (j := 29) rfl
theorem sl_69 : Cond.selects yX9_isNamed.cls yX9_isNamed yX9_isNamed ∈ gTw := (gTw_p 16 (by decide +kernel) (by decide +kernel))
theorem im_69 : Cond.instanceMethod yX9_isNamed ∈ gTw := (gTw_4 30 (by decide +kernel) (by decide +kernel))
theorem mo_70 : gMok (yX9_toldName, cX9_toldName, 1, (some (FieldType.boolean)), some 9) 0 := ⟨(gTw_4 78 (by decide +kernel) (by decide +kernel)), (gTw_1 4 (by decide +kernel) (by decide +kernel)), ⟨by decide, by decide, by decide +kernel⟩, by decide⟩
theorem mt_70 : gMt[70]? = some (yX9_toldName, cX9_toldName, 1, (some (FieldType.boolean)), some 9) := gMtc_1 (j := 30) rfl
theorem sl_70 : Cond.selects yX9_toldName.cls yX9_toldName yX9_toldName ∈ gTw := (gTw_p 23 (by decide +kernel) (by decide +kernel))
theorem im_70 : Cond.instanceMethod yX9_toldName ∈ gTw := (gTw_4 77 (by decide +kernel) (by decide +kernel))
theorem mo_71 : gMok (yX9_glassLine, cX9_glassLine, 1, (some (FieldType.boolean)), some 9) 0 := ⟨(gTw_4 3 (by decide +kernel) (by decide +kernel)), (gTw_1 4 (by decide +kernel) (by decide +kernel)), ⟨by decide, by decide, by decide +kernel⟩, by decide⟩
theorem mt_71 : gMt[71]? = some (yX9_glassLine, cX9_glassLine, 1, (some (FieldType.boolean)), some 9) := gMtc_1 (j := 31) rfl
theorem sl_71 : Cond.selects yX9_glassLine.cls yX9_glassLine yX9_glassLine ∈ gTw := (gTw_p 10 (by decide +kernel) (by decide +kernel))
theorem im_71 : Cond.instanceMethod yX9_glassLine ∈ gTw := (gTw_4 2 (by decide +kernel) (by decide +kernel))
theorem mo_72 : gMok (yX9_personLine, cX9_personLine, 2, (some (FieldType.boolean)), some 9) 1 := ⟨(gTw_4 19 (by decide +kernel) (by decide +kernel)), (gTw_1 4 (by decide +kernel) (by decide +kernel)), ⟨by decide, by decide, by decide +kernel⟩, by decide⟩
theorem mt_72 : gMt[72]? = some (yX9_personLine, cX9_personLine, 2, (some (FieldType.boolean)), some 9) := gMtc_1 (j := 32) rfl
theorem sl_72 : Cond.selects yX9_personLine.cls yX9_personLine yX9_personLine ∈ gTw := (gTw_p 13 (by decide +kernel) (by decide +kernel))
theorem im_72 : Cond.instanceMethod yX9_personLine ∈ gTw := (gTw_4 18 (by decide +kernel) (by decide +kernel))
theorem mo_73 : gMok (yX9_newName, cX9_newName, 2, (some (FieldType.boolean)), some 9) 1 := ⟨(gTw_4 23 (by decide +kernel) (by decide +kernel)), (gTw_1 4 (by decide +kernel) (by decide +kernel)), ⟨by decide, by decide, by decide +kernel⟩, by decide⟩
theorem mt_73 : gMt[73]? = some (yX9_newName, cX9_newName, 2, (some (FieldType.boolean)), some 9) := gMtc_1 (j := 33) rfl
theorem sl_73 : Cond.selects yX9_newName.cls yX9_newName yX9_newName ∈ gTw := (gTw_p 14 (by decide +kernel) (by decide +kernel))
theorem im_73 : Cond.instanceMethod yX9_newName ∈ gTw := (gTw_4 22 (by decide +kernel) (by decide +kernel))
theorem mo_74 : gMok (yX9_kindWord, cX9_kindWord, 2, (some (FieldType.boolean)), some 9) 1 := ⟨(gTw_4 35 (by decide +kernel) (by decide +kernel)), (gTw_1 4 (by decide +kernel) (by decide +kernel)), ⟨by decide, by decide, by decide +kernel⟩, by decide⟩
theorem mt_74 : gMt[74]? = some (yX9_kindWord, cX9_kindWord, 2, (some (FieldType.boolean)), some 9) := gMtc_1 (j := 34) rfl
theorem sl_74 : Cond.selects yX9_kindWord.cls yX9_kindWord yX9_kindWord ∈ gTw := (gTw_p 17 (by decide +kernel) (by decide +kernel))
theorem im_74 : Cond.instanceMethod yX9_kindWord ∈ gTw := (gTw_4 34 (by decide +kernel) (by decide +kernel))
theorem mo_75 : gMok (yX9_habitWord, cX9_habitWord, 2, (some (FieldType.boolean)), some 9) 1 := ⟨(gTw_4 48 (by decide +kernel) (by decide +kernel)), (gTw_1 4 (by decide +kernel) (by decide +kernel)), ⟨by decide, by decide, by decide +kernel⟩, by decide⟩
theorem mt_75 : gMt[75]? = some (yX9_habitWord, cX9_habitWord, 2, (some (FieldType.boolean)), some 9) := gMtc_1 (j := 35) rfl
theorem sl_75 : Cond.selects yX9_habitWord.cls yX9_habitWord yX9_habitWord ∈ gTw := (gTw_p 19 (by decide +kernel) (by decide +kernel))
theorem im_75 : Cond.instanceMethod yX9_habitWord ∈ gTw := (gTw_4 47 (by decide +kernel) (by decide +kernel))
theorem mo_76 : gMok (yX9_takesWord, cX9_takesWord, 2, (some (FieldType.boolean)), some 9) 1 := ⟨(gTw_4 68 (by decide +kernel) (by decide +kernel)), (gTw_1 4 (by decide +kernel) (by decide +kernel)), ⟨by decide, by decide, by decide +kernel⟩, by decide⟩
theorem mt_76 : gMt[76]? = some (yX9_takesWord, cX9_takesWord, 2, (some (FieldType.boolean)), some 9) := gMtc_1 (j := 36) rfl
theorem sl_76 : Cond.selects yX9_takesWord.cls yX9_takesWord yX9_takesWord ∈ gTw := (gTw_p 21 (by decide +kernel) (by decide +kernel))
theorem im_76 : Cond.instanceMethod yX9_takesWord ∈ gTw := (gTw_4 67 (by decide +kernel) (by decide +kernel))
theorem mo_77 : gMok (yX9_order, cX9_order, 4, (some (FieldType.boolean)), some 9) 1 := ⟨(gTw_4 57 (by decide +kernel) (by decide +kernel)), (gTw_1 4 (by decide +kernel) (by decide +kernel)), ⟨by decide, by decide, by decide +kernel⟩, by decide⟩
theorem mt_77 : gMt[77]? = some (yX9_order, cX9_order, 4, (some (FieldType.boolean)), some 9) := gMtc_1 (j := 37) rfl
theorem sl_77 : Cond.selects yX9_order.cls yX9_order yX9_order ∈ gTw := (gTw_p 20 (by decide +kernel) (by decide +kernel))
theorem im_77 : Cond.instanceMethod yX9_order ∈ gTw := (gTw_4 56 (by decide +kernel) (by decide +kernel))
theorem mo_78 : gMok (yX9_stayLine, cX9_stayLine, 4, (some (FieldType.boolean)), some 9) 0 := ⟨(gTw_4 74 (by decide +kernel) (by decide +kernel)), (gTw_1 4 (by decide +kernel) (by decide +kernel)), ⟨by decide, by decide, by decide +kernel⟩, by decide⟩
theorem mt_78 : gMt[78]? = some (yX9_stayLine, cX9_stayLine, 4, (some (FieldType.boolean)), some 9) := gMtc_1 (j := 38) rfl
theorem sl_78 : Cond.selects yX9_stayLine.cls yX9_stayLine yX9_stayLine ∈ gTw := (gTw_p 22 (by decide +kernel) (by decide +kernel))
theorem im_78 : Cond.instanceMethod yX9_stayLine ∈ gTw := (gTw_4 73 (by decide +kernel) (by decide +kernel))
theorem mo_79 : gMok (yX9_movesLine, cX9_movesLine, 3, (some (FieldType.boolean)), some 9) 1 := ⟨(gTw_4 87 (by decide +kernel) (by decide +kernel)), (gTw_1 4 (by decide +kernel) (by decide +kernel)), ⟨by decide, by decide, by decide +kernel⟩, by decide⟩
theorem mt_79 : gMt[79]? = some (yX9_movesLine, cX9_movesLine, 3, (some (FieldType.boolean)), some 9) := gMtc_1 (j := 39) rfl
theorem sl_79 : Cond.selects yX9_movesLine.cls yX9_movesLine yX9_movesLine ∈ gTw := (gTw_p 24 (by decide +kernel) (by decide +kernel))
theorem im_79 : Cond.instanceMethod yX9_movesLine ∈ gTw := (gTw_4 86 (by decide +kernel) (by decide +kernel))
theorem mo_80 : gMok (yX9_seenLine, cX9_seenLine, 5, (some (FieldType.boolean)), some 9) 1 := ⟨(gTw_4 91 (by decide +kernel) (by decide +kernel)), (gTw_1 4 (by decide +kernel) (by decide +kernel)), ⟨by decide, by decide, by decide +kernel⟩, by decide⟩
theorem mt_80 : gMt[80]? = some (yX9_seenLine, cX9_seenLine, 5, (some (FieldType.boolean)), some 9) := gMtc_2 (j := 0) rfl
theorem sl_80 : Cond.selects yX9_seenLine.cls yX9_seenLine yX9_seenLine ∈ gTw := (gTw_p 25 (by decide +kernel) (by decide +kernel))
theorem im_80 : Cond.instanceMethod yX9_seenLine ∈ gTw := (gTw_4 90 (by decide +kernel) (by decide +kernel))
theorem mo_81 : gMok (yX9_saysLine, cX9_saysLine, 2, (some (FieldType.boolean)), some 9) 1 := ⟨(gTw_4 95 (by decide +kernel) (by decide +kernel)), (gTw_1 4 (by decide +kernel) (by decide +kernel)), ⟨by decide, by decide, by decide +kernel⟩, by decide⟩
theorem mt_81 : gMt[81]? = some (yX9_saysLine, cX9_saysLine, 2, (some (FieldType.boolean)), some 9) := gMtc_2 (j := 1) rfl
theorem sl_81 : Cond.selects yX9_saysLine.cls yX9_saysLine yX9_saysLine ∈ gTw := (gTw_p 26 (by decide +kernel) (by decide +kernel))
theorem im_81 : Cond.instanceMethod yX9_saysLine ∈ gTw := (gTw_4 94 (by decide +kernel) (by decide +kernel))
theorem mo_82 : gMok (yX10_init, cX10_init, 1, none, some 10) 0 := ⟨(gTw_2 42 (by decide +kernel) (by decide +kernel)), (gTw_1 5 (by decide +kernel) (by decide +kernel)), ⟨by decide, by decide, by decide +kernel⟩, by decide⟩
theorem mt_82 : gMt[82]? = some (yX10_init, cX10_init, 1, none, some 10) := gMtc_2 (j := 2) rfl
theorem im_82 : Cond.instanceMethod yX10_init ∈ gTw := (gTw_2 41 (by decide +kernel) (by decide +kernel))
theorem mo_83 : gMok (yX10_begin, cX10_begin, 3, none, some 10) 1 := ⟨(gTw_4 99 (by decide +kernel) (by decide +kernel)), (gTw_1 5 (by decide +kernel) (by decide +kernel)), ⟨by decide, by decide, by decide +kernel⟩, by decide⟩
theorem mt_83 : gMt[83]? = some (yX10_begin, cX10_begin, 3, none, some 10) := gMtc_2 (j := 3) rfl
theorem sl_83 : Cond.selects yX10_begin.cls yX10_begin yX10_begin ∈ gTw := (gTw_4 98 (by decide +kernel) (by decide +kernel))
theorem im_83 : Cond.instanceMethod yX10_begin ∈ gTw := (gTw_4 97 (by decide +kernel) (by decide +kernel))
theorem mo_84 : gMok (yX10_take, cX10_take, 2, none, some 10) 1 := ⟨(gTw_5 129 (by decide +kernel) (by decide +kernel)), (gTw_1 5 (by decide +kernel) (by decide +kernel)), ⟨by decide, by decide, by decide +kernel⟩, by decide⟩
theorem mt_84 : gMt[84]? = some (yX10_take, cX10_take, 2, none, some 10) := gMtc_2 (j := 4) rfl
theorem sl_84 : Cond.selects yX10_take.cls yX10_take yX10_take ∈ gTw := (gTw_5 128 (by decide +kernel) (by decide +kernel))
theorem im_84 : Cond.instanceMethod yX10_take ∈ gTw := (gTw_5 127 (by decide +kernel) (by decide +kernel))
theorem mo_85 : gMok (yX10_addMove, cX10_addMove, 4, none, some 10) 3 := ⟨(gTw_6 64 (by decide +kernel) (by decide +kernel)), (gTw_1 5 (by decide +kernel) (by decide +kernel)), ⟨by decide, by decide, by decide +kernel⟩, by decide⟩
theorem mt_85 : gMt[85]? = some (yX10_addMove, cX10_addMove, 4, none, some 10) := gMtc_2 (j := 5) rfl
theorem sl_85 : Cond.selects yX10_addMove.cls yX10_addMove yX10_addMove ∈ gTw := (gTw_6 63 (by decide +kernel) (by decide +kernel))
theorem im_85 : Cond.instanceMethod yX10_addMove ∈ gTw := (gTw_6 62 (by decide +kernel) (by decide +kernel))
theorem mo_86 : gMok (yX10_draw, cX10_draw, 1, (some (FieldType.int)), some 10) 0 := ⟨(gTw_6 76 (by decide +kernel) (by decide +kernel)), (gTw_1 5 (by decide +kernel) (by decide +kernel)), ⟨by decide, by decide, by decide +kernel⟩, by decide⟩
theorem mt_86 : gMt[86]? = some (yX10_draw, cX10_draw, 1, (some (FieldType.int)), some 10) := gMtc_2 (j := 6) rfl
theorem sl_86 : Cond.selects yX10_draw.cls yX10_draw yX10_draw ∈ gTw := (gTw_6 75 (by decide +kernel) (by decide +kernel))
theorem im_86 : Cond.instanceMethod yX10_draw ∈ gTw := (gTw_6 74 (by decide +kernel) (by decide +kernel))
theorem mo_143 : gMok (yX11_answer, cX11_answer, 2, (some (FieldType.int)), some 11) 1 := ⟨(gTw_4 132 (by decide +kernel) (by decide +kernel)), (gTw_1 1 (by decide +kernel) (by decide +kernel)), ⟨by decide, by decide, by decide +kernel⟩, by decide⟩
theorem mt_143 : gMt[143]? = some (yX11_answer, cX11_answer, 2, (some (FieldType.int)), some 11) := gMtc_3 (j := 23) rfl
theorem sl_143 : Cond.selects yX11_answer.cls yX11_answer yX11_answer ∈ gTw := (gTw_p 28 (by decide +kernel) (by decide +kernel))
theorem im_143 : Cond.instanceMethod yX11_answer ∈ gTw := (gTw_4 131 (by decide +kernel) (by decide +kernel))
theorem mo_144 : gMok (yX11_refuse, cX11_refuse, 2, (some (FieldType.int)), some 11) 1 := ⟨(gTw_3 139 (by decide +kernel) (by decide +kernel)), (gTw_1 1 (by decide +kernel) (by decide +kernel)), ⟨by decide, by decide, by decide +kernel⟩, by decide⟩
theorem mt_144 : gMt[144]? = some (yX11_refuse, cX11_refuse, 2, (some (FieldType.int)), some 11) := gMtc_3 (j := 24) rfl
theorem sl_144 : Cond.selects yX11_refuse.cls yX11_refuse yX11_refuse ∈ gTw := (gTw_p 1 (by decide +kernel) (by decide +kernel))
theorem im_144 : Cond.instanceMethod yX11_refuse ∈ gTw := (gTw_3 138 (by decide +kernel) (by decide +kernel))
theorem mo_145 : gMok (yX11_deny, cX11_deny, 2, (some (FieldType.boolean)), some 11) 1 := ⟨(gTw_6 54 (by decide +kernel) (by decide +kernel)), (gTw_1 1 (by decide +kernel) (by decide +kernel)), ⟨by decide, by decide, by decide +kernel⟩, by decide⟩
theorem mt_145 : gMt[145]? = some (yX11_deny, cX11_deny, 2, (some (FieldType.boolean)), some 11) := gMtc_3 (j := 25) rfl
theorem sl_145 : Cond.selects yX11_deny.cls yX11_deny yX11_deny ∈ gTw := (gTw_p 56 (by decide +kernel) (by decide +kernel))
theorem im_145 : Cond.instanceMethod yX11_deny ∈ gTw := (gTw_6 53 (by decide +kernel) (by decide +kernel))
theorem mo_146 : gMok (yX11_done, cX11_done, 1, (some (FieldType.boolean)), some 11) 0 := ⟨(gTw_6 68 (by decide +kernel) (by decide +kernel)), (gTw_1 1 (by decide +kernel) (by decide +kernel)), ⟨by decide, by decide, by decide +kernel⟩, by decide⟩
theorem mt_146 : gMt[146]? = some (yX11_done, cX11_done, 1, (some (FieldType.boolean)), some 11) := gMtc_3 (j := 26) rfl
theorem sl_146 : Cond.selects yX11_done.cls yX11_done yX11_done ∈ gTw := (gTw_p 57 (by decide +kernel) (by decide +kernel))
theorem im_146 : Cond.instanceMethod yX11_done ∈ gTw := (gTw_6 67 (by decide +kernel) (by decide +kernel))
theorem mo_147 : gMok (yX11_hasGlass, cX11_hasGlass, 1, (some (FieldType.boolean)), some 11) 0 := ⟨(gTw_4 172 (by decide +kernel) (by decide +kernel)), (gTw_1 1 (by decide +kernel) (by decide +kernel)), ⟨by decide, by decide, by decide +kernel⟩, by decide⟩
theorem mt_147 : gMt[147]? = some (yX11_hasGlass, cX11_hasGlass, 1, (some (FieldType.boolean)), some 11) := gMtc_3 (j := 27) rfl
theorem sl_147 : Cond.selects yX11_hasGlass.cls yX11_hasGlass yX11_hasGlass ∈ gTw := (gTw_p 32 (by decide +kernel) (by decide +kernel))
theorem im_147 : Cond.instanceMethod yX11_hasGlass ∈ gTw := (gTw_4 171 (by decide +kernel) (by decide +kernel))
theorem mo_148 : gMok (yX11_isDay, cX11_isDay, 2, (some (FieldType.boolean)), some 11) 1 := ⟨(gTw_4 176 (by decide +kernel) (by decide +kernel)), (gTw_1 1 (by decide +kernel) (by decide +kernel)), ⟨by decide, by decide, by decide +kernel⟩, by decide⟩
theorem mt_148 : gMt[148]? = some (yX11_isDay, cX11_isDay, 2, (some (FieldType.boolean)), some 11) := gMtc_3 (j := 28) rfl
theorem sl_148 : Cond.selects yX11_isDay.cls yX11_isDay yX11_isDay ∈ gTw := (gTw_p 33 (by decide +kernel) (by decide +kernel))
theorem im_148 : Cond.instanceMethod yX11_isDay ∈ gTw := (gTw_4 175 (by decide +kernel) (by decide +kernel))
theorem mo_149 : gMok (yX11_isPlace, cX11_isPlace, 2, (some (FieldType.boolean)), some 11) 1 := ⟨(gTw_5 36 (by decide +kernel) (by decide +kernel)), (gTw_1 1 (by decide +kernel) (by decide +kernel)), ⟨by decide, by decide, by decide +kernel⟩, by decide⟩
theorem mt_149 : gMt[149]? = some (yX11_isPlace, cX11_isPlace, 2, (some (FieldType.boolean)), some 11) := gMtc_3 (j := 29) rfl
theorem sl_149 : Cond.selects yX11_isPlace.cls yX11_isPlace yX11_isPlace ∈ gTw := (gTw_p 46 (by decide +kernel) (by decide +kernel))
theorem im_149 : Cond.instanceMethod yX11_isPlace ∈ gTw := (gTw_5 35 (by decide +kernel) (by decide +kernel))
theorem mo_150 : gMok (yX11_isPerson, cX11_isPerson, 2, (some (FieldType.boolean)), some 11) 1 := ⟨(gTw_4 148 (by decide +kernel) (by decide +kernel)), (gTw_1 1 (by decide +kernel) (by decide +kernel)), ⟨by decide, by decide, by decide +kernel⟩, by decide⟩
theorem mt_150 : gMt[150]? = some (yX11_isPerson, cX11_isPerson, 2, (some (FieldType.boolean)), some 11) := gMtc_3 (j := 30) rfl
theorem sl_150 : Cond.selects yX11_isPerson.cls yX11_isPerson yX11_isPerson ∈ gTw := (gTw_p 29 (by decide +kernel) (by decide +kernel))
theorem im_150 : Cond.instanceMethod yX11_isPerson ∈ gTw := (gTw_4 147 (by decide +kernel) (by decide +kernel))
theorem mo_151 : gMok (yX11_allowsGlass, cX11_allowsGlass, 1, (some (FieldType.boolean)), some 11) 0 := ⟨(gTw_4 168 (by decide +kernel) (by decide +kernel)), (gTw_1 1 (by decide +kernel) (by decide +kernel)), ⟨by decide, by decide, by decide +kernel⟩, by decide⟩
theorem mt_151 : gMt[151]? = some (yX11_allowsGlass, cX11_allowsGlass, 1, (some (FieldType.boolean)), some 11) := gMtc_3 (j := 31) rfl
theorem sl_151 : Cond.selects yX11_allowsGlass.cls yX11_allowsGlass yX11_allowsGlass ∈ gTw := (gTw_p 31 (by decide +kernel) (by decide +kernel))
theorem im_151 : Cond.instanceMethod yX11_allowsGlass ∈ gTw := (gTw_4 167 (by decide +kernel) (by decide +kernel))
theorem mo_152 : gMok (yX11_allowsOne, cX11_allowsOne, 2, (some (FieldType.boolean)), some 11) 1 := ⟨(gTw_5 65 (by decide +kernel) (by decide +kernel)), (gTw_1 1 (by decide +kernel) (by decide +kernel)), ⟨by decide, by decide, by decide +kernel⟩, by decide⟩
theorem mt_152 : gMt[152]? = some (yX11_allowsOne, cX11_allowsOne, 2, (some (FieldType.boolean)), some 11) := gMtc_3 (j := 32) rfl
theorem sl_152 : Cond.selects yX11_allowsOne.cls yX11_allowsOne yX11_allowsOne ∈ gTw := (gTw_p 48 (by decide +kernel) (by decide +kernel))
theorem im_152 : Cond.instanceMethod yX11_allowsOne ∈ gTw := (gTw_5 64 (by decide +kernel) (by decide +kernel))
theorem mo_153 : gMok (yX11_allowsDay, cX11_allowsDay, 2, (some (FieldType.boolean)), some 11) 1 := ⟨(gTw_4 164 (by decide +kernel) (by decide +kernel)), (gTw_1 1 (by decide +kernel) (by decide +kernel)), ⟨by decide, by decide, by decide +kernel⟩, by decide⟩
theorem mt_153 : gMt[153]? = some (yX11_allowsDay, cX11_allowsDay, 2, (some (FieldType.boolean)), some 11) := gMtc_3 (j := 33) rfl
theorem sl_153 : Cond.selects yX11_allowsDay.cls yX11_allowsDay yX11_allowsDay ∈ gTw := (gTw_p 30 (by decide +kernel) (by decide +kernel))
theorem im_153 : Cond.instanceMethod yX11_allowsDay ∈ gTw := (gTw_4 163 (by decide +kernel) (by decide +kernel))
theorem mo_154 : gMok (yX11_allowsPerson, cX11_allowsPerson, 3, (some (FieldType.boolean)), some 11) 2 := ⟨(gTw_5 61 (by decide +kernel) (by decide +kernel)), (gTw_1 1 (by decide +kernel) (by decide +kernel)), ⟨by decide, by decide, by decide +kernel⟩, by decide⟩
theorem mt_154 : gMt[154]? = some (yX11_allowsPerson, cX11_allowsPerson, 3, (some (FieldType.boolean)), some 11) := gMtc_3 (j := 34) rfl
theorem sl_154 : Cond.selects yX11_allowsPerson.cls yX11_allowsPerson yX11_allowsPerson ∈ gTw := (gTw_p 47 (by decide +kernel) (by decide +kernel))
theorem im_154 : Cond.instanceMethod yX11_allowsPerson ∈ gTw := (gTw_5 60 (by decide +kernel) (by decide +kernel))
theorem mo_155 : gMok (yX11_allowsPlace, cX11_allowsPlace, 3, (some (FieldType.boolean)), some 11) 2 := ⟨(gTw_5 32 (by decide +kernel) (by decide +kernel)), (gTw_1 1 (by decide +kernel) (by decide +kernel)), ⟨by decide, by decide, by decide +kernel⟩, by decide⟩
theorem mt_155 : gMt[155]? = some (yX11_allowsPlace, cX11_allowsPlace, 3, (some (FieldType.boolean)), some 11) := gMtc_3 (j := 35) rfl
theorem sl_155 : Cond.selects yX11_allowsPlace.cls yX11_allowsPlace yX11_allowsPlace ∈ gTw := (gTw_p 45 (by decide +kernel) (by decide +kernel))
theorem im_155 : Cond.instanceMethod yX11_allowsPlace ∈ gTw := (gTw_5 31 (by decide +kernel) (by decide +kernel))
theorem mo_156 : gMok (yX11_allowsNumber, cX11_allowsNumber, 2, (some (FieldType.boolean)), some 11) 1 := ⟨(gTw_4 180 (by decide +kernel) (by decide +kernel)), (gTw_1 1 (by decide +kernel) (by decide +kernel)), ⟨by decide, by decide, by decide +kernel⟩, by decide⟩
theorem mt_156 : gMt[156]? = some (yX11_allowsNumber, cX11_allowsNumber, 2, (some (FieldType.boolean)), some 11) := gMtc_3 (j := 36) rfl
theorem sl_156 : Cond.selects yX11_allowsNumber.cls yX11_allowsNumber yX11_allowsNumber ∈ gTw := (gTw_p 34 (by decide +kernel) (by decide +kernel))
theorem im_156 : Cond.instanceMethod yX11_allowsNumber ∈ gTw := (gTw_4 179 (by decide +kernel) (by decide +kernel))
theorem mo_157 : gMok (yX11_append, cX11_append, 3, none, some 11) 1 := ⟨(gTw_3 131 (by decide +kernel) (by decide +kernel)), (gTw_1 1 (by decide +kernel) (by decide +kernel)), ⟨by decide, by decide, by decide +kernel⟩, by decide⟩
theorem mt_157 : gMt[157]? = some (yX11_append, cX11_append, 3, none, some 11) := gMtc_3 (j := 37) rfl
theorem sl_157 : Cond.selects yX11_append.cls yX11_append yX11_append ∈ gTw := (gTw_p 0 (by decide +kernel) (by decide +kernel))
theorem im_157 : Cond.instanceMethod yX11_append ∈ gTw := (gTw_3 130 (by decide +kernel) (by decide +kernel))
theorem mo_158 : gMok (yX11_changed, cX11_changed, 1, none, some 11) 0 := ⟨(gTw_4 128 (by decide +kernel) (by decide +kernel)), (gTw_1 1 (by decide +kernel) (by decide +kernel)), ⟨by decide, by decide, by decide +kernel⟩, by decide⟩
theorem mt_158 : gMt[158]? = some (yX11_changed, cX11_changed, 1, none, some 11) := gMtc_3 (j := 38) rfl
theorem sl_158 : Cond.selects yX11_changed.cls yX11_changed yX11_changed ∈ gTw := (gTw_p 27 (by decide +kernel) (by decide +kernel))
theorem im_158 : Cond.instanceMethod yX11_changed ∈ gTw := (gTw_4 127 (by decide +kernel) (by decide +kernel))
theorem mo_159 : gMok (yX11_today, cX11_today, 1, (some (FieldType.object "BrushGlass$Diary")), some 11) 0 := ⟨(gTw_4 193 (by decide +kernel) (by decide +kernel)), (gTw_1 1 (by decide +kernel) (by decide +kernel)), ⟨by decide, by decide, by decide +kernel⟩, by decide⟩
theorem mt_159 : gMt[159]? = some (yX11_today, cX11_today, 1, (some (FieldType.object "BrushGlass$Diary")), some 11) := gMtc_3 (j := 39) rfl
theorem sl_159 : Cond.selects yX11_today.cls yX11_today yX11_today ∈ gTw := (gTw_p 35 (by decide +kernel) (by decide +kernel))
theorem im_159 : Cond.instanceMethod yX11_today ∈ gTw := (gTw_4 192 (by decide +kernel) (by decide +kernel))
theorem mo_160 : gMok (yX11_daysAlikeIfAllBuyBy, cX11_daysAlikeIfAllBuyBy, 2, (some (FieldType.int)), some 11) 1 := ⟨(gTw_5 125 (by decide +kernel) (by decide +kernel)), (gTw_1 1 (by decide +kernel) (by decide +kernel)), ⟨by decide, by decide, by decide +kernel⟩, by decide⟩
theorem mt_160 : gMt[160]? = some (yX11_daysAlikeIfAllBuyBy, cX11_daysAlikeIfAllBuyBy, 2, (some (FieldType.int)), some 11) := gMtc_4 (j := 0) rfl
theorem sl_160 : Cond.selects yX11_daysAlikeIfAllBuyBy.cls yX11_daysAlikeIfAllBuyBy yX11_daysAlikeIfAllBuyBy ∈ gTw := (gTw_p 49 (by decide +kernel) (by decide +kernel))
theorem im_160 : Cond.instanceMethod yX11_daysAlikeIfAllBuyBy ∈ gTw := (gTw_5 124 (by decide +kernel) (by decide +kernel))
theorem mo_161 : gMok (yX11_sharedIfAllAre, cX11_sharedIfAllAre, 2, (some (FieldType.int)), some 11) 1 := ⟨(gTw_5 145 (by decide +kernel) (by decide +kernel)), (gTw_1 1 (by decide +kernel) (by decide +kernel)), ⟨by decide, by decide, by decide +kernel⟩, by decide⟩
theorem mt_161 : gMt[161]? = some (yX11_sharedIfAllAre, cX11_sharedIfAllAre, 2, (some (FieldType.int)), some 11) := gMtc_4 (j := 1) rfl
theorem sl_161 : Cond.selects yX11_sharedIfAllAre.cls yX11_sharedIfAllAre yX11_sharedIfAllAre ∈ gTw := (gTw_p 50 (by decide +kernel) (by decide +kernel))
theorem im_161 : Cond.instanceMethod yX11_sharedIfAllAre ∈ gTw := (gTw_5 144 (by decide +kernel) (by decide +kernel))
theorem mo_162 : gMok (yX11_firstWrongSeeing, cX11_firstWrongSeeing, 3, (some (FieldType.int)), some 11) 1 := ⟨(gTw_5 165 (by decide +kernel) (by decide +kernel)), (gTw_1 1 (by decide +kernel) (by decide +kernel)), ⟨by decide, by decide, by decide +kernel⟩, by decide⟩
theorem mt_162 : gMt[162]? = some (yX11_firstWrongSeeing, cX11_firstWrongSeeing, 3, (some (FieldType.int)), some 11) := gMtc_4 (j := 2) rfl
theorem sl_162 : Cond.selects yX11_firstWrongSeeing.cls yX11_firstWrongSeeing yX11_firstWrongSeeing ∈ gTw := (gTw_p 51 (by decide +kernel) (by decide +kernel))
theorem im_162 : Cond.instanceMethod yX11_firstWrongSeeing ∈ gTw := (gTw_5 164 (by decide +kernel) (by decide +kernel))
theorem mo_163 : gMok (yX11_holds, cX11_holds, 4, (some (FieldType.boolean)), some 11) 2 := ⟨(gTw_5 225 (by decide +kernel) (by decide +kernel)), (gTw_1 1 (by decide +kernel) (by decide +kernel)), ⟨by decide, by decide, by decide +kernel⟩, by decide⟩
theorem mt_163 : gMt[163]? = some (yX11_holds, cX11_holds, 4, (some (FieldType.boolean)), some 11) := gMtc_4 (j := 3) rfl
theorem sl_163 : Cond.selects yX11_holds.cls yX11_holds yX11_holds ∈ gTw := (gTw_p 54 (by decide +kernel) (by decide +kernel))
theorem im_163 : Cond.instanceMethod yX11_holds ∈ gTw := (gTw_5 224 (by decide +kernel) (by decide +kernel))
theorem mo_164 : gMok (yX12_init, cX12_init, 1, none, some 12) 0 := ⟨(gTw_7 139 (by decide +kernel) (by decide +kernel)), (gTw_1 21 (by decide +kernel) (by decide +kernel)), ⟨by decide, by decide, by decide +kernel⟩, by decide⟩
theorem mt_164 : gMt[164]? = some (yX12_init, cX12_init, 1, none, some 12) := gMtc_4 (j := 4) rfl
theorem im_164 : Cond.instanceMethod yX12_init ∈ gTw := (gTw_7 138 (by decide +kernel) (by decide +kernel))
theorem mo_165 : gMok (yX12_find, cX12_find, 4, (some (FieldType.int)), some 12) 1 := ⟨(gTw_8 88 (by decide +kernel) (by decide +kernel)), (gTw_1 21 (by decide +kernel) (by decide +kernel)), ⟨by decide, by decide, by decide +kernel⟩, by decide⟩
theorem mt_165 : gMt[165]? = some (yX12_find, cX12_find, 4, (some (FieldType.int)), some 12) := gMtc_4 (j := 5) rfl
theorem sl_165 : Cond.selects yX12_find.cls yX12_find yX12_find ∈ gTw := (gTw_8 87 (by decide +kernel) (by decide +kernel))
theorem im_165 : Cond.instanceMethod yX12_find ∈ gTw := (gTw_8 86 (by decide +kernel) (by decide +kernel))
theorem mo_166 : gMok (yX12_isHere, cX12_isHere, 4, (some (FieldType.boolean)), some 12) 2 := ⟨(gTw_8 179 (by decide +kernel) (by decide +kernel)), (gTw_1 21 (by decide +kernel) (by decide +kernel)), ⟨by decide, by decide, by decide +kernel⟩, by decide⟩
theorem mt_166 : gMt[166]? = some (yX12_isHere, cX12_isHere, 4, (some (FieldType.boolean)), some 12) := gMtc_4 (j := 6) rfl
theorem sl_166 : Cond.selects yX12_isHere.cls yX12_isHere yX12_isHere ∈ gTw := (gTw_8 178 (by decide +kernel) (by decide +kernel))
theorem im_166 : Cond.instanceMethod yX12_isHere ∈ gTw := (gTw_8 177 (by decide +kernel) (by decide +kernel))
theorem mo_167 : gMok (yX12_comes, cX12_comes, 4, (some (FieldType.boolean)), some 12) 2 := ⟨(gTw_8 207 (by decide +kernel) (by decide +kernel)), (gTw_1 21 (by decide +kernel) (by decide +kernel)), ⟨by decide, by decide, by decide +kernel⟩, by decide⟩
theorem mt_167 : gMt[167]? = some (yX12_comes, cX12_comes, 4, (some (FieldType.boolean)), some 12) := gMtc_4 (j := 7) rfl
theorem sl_167 : Cond.selects yX12_comes.cls yX12_comes yX12_comes ∈ gTw := (gTw_8 206 (by decide +kernel) (by decide +kernel))
theorem im_167 : Cond.instanceMethod yX12_comes ∈ gTw := (gTw_8 205 (by decide +kernel) (by decide +kernel))
theorem mo_168 : gMok (yX12_goes, cX12_goes, 4, (some (FieldType.boolean)), some 12) 2 := ⟨(gTw_9 8 (by decide +kernel) (by decide +kernel)), (gTw_1 21 (by decide +kernel) (by decide +kernel)), ⟨by decide, by decide, by decide +kernel⟩, by decide⟩
theorem mt_168 : gMt[168]? = some (yX12_goes, cX12_goes, 4, (some (FieldType.boolean)), some 12) := gMtc_4 (j := 8) rfl
theorem sl_168 : Cond.selects yX12_goes.cls yX12_goes yX12_goes ∈ gTw := (gTw_9 7 (by decide +kernel) (by decide +kernel))
theorem im_168 : Cond.instanceMethod yX12_goes ∈ gTw := (gTw_9 6 (by decide +kernel) (by decide +kernel))
theorem mo_169 : gMok (yX12_here, cX12_here, 4, (some (FieldType.int)), some 12) 1 := ⟨(gTw_8 175 (by decide +kernel) (by decide +kernel)), (gTw_1 21 (by decide +kernel) (by decide +kernel)), ⟨by decide, by decide, by decide +kernel⟩, by decide⟩
theorem mt_169 : gMt[169]? = some (yX12_here, cX12_here, 4, (some (FieldType.int)), some 12) := gMtc_4 (j := 9) rfl
theorem sl_169 : Cond.selects yX12_here.cls yX12_here yX12_here ∈ gTw := (gTw_8 174 (by decide +kernel) (by decide +kernel))
theorem im_169 : Cond.instanceMethod yX12_here ∈ gTw := (gTw_8 173 (by decide +kernel) (by decide +kernel))
theorem mo_172 : gMok (yX13_refused, cX13_refused, 2, (some (FieldType.int)), some 13) 1 := ⟨(gTw_7 134 (by decide +kernel) (by decide +kernel)), (gTw_1 13 (by decide +kernel) (by decide +kernel)), ⟨by decide, by decide, by decide +kernel⟩, by decide⟩
theorem mt_172 : gMt[172]? = some (yX13_refused, cX13_refused, 2, (some (FieldType.int)), some 13) := gMtc_4 (j := 12) rfl
theorem sl_172 : Cond.selects yX13_refused.cls yX13_refused yX13_refused ∈ gTw := (gTw_p 59 (by decide +kernel) (by decide +kernel))
theorem im_172 : Cond.instanceMethod yX13_refused ∈ gTw := (gTw_7 133 (by decide +kernel) (by decide +kernel))
theorem mo_173 : gMok (yX13_denied, cX13_denied, 2, (some (FieldType.boolean)), some 13) 1 := ⟨(gTw_10 12 (by decide +kernel) (by decide +kernel)), (gTw_1 13 (by decide +kernel) (by decide +kernel)), ⟨by decide, by decide, by decide +kernel⟩, by decide⟩
theorem mt_173 : gMt[173]? = some (yX13_denied, cX13_denied, 2, (some (FieldType.boolean)), some 13) := gMtc_4 (j := 13) rfl
theorem sl_173 : Cond.selects yX13_denied.cls yX13_denied yX13_denied ∈ gTw := (gTw_p 122 (by decide +kernel) (by decide +kernel))
theorem im_173 : Cond.instanceMethod yX13_denied ∈ gTw := (gTw_10 11 (by decide +kernel) (by decide +kernel))
theorem mo_174 : gMok (yX13_good, cX13_good, 2, (some (FieldType.int)), some 13) 1 := ⟨(gTw_8 135 (by decide +kernel) (by decide +kernel)), (gTw_1 13 (by decide +kernel) (by decide +kernel)), ⟨by decide, by decide, by decide +kernel⟩, by decide⟩
theorem mt_174 : gMt[174]? = some (yX13_good, cX13_good, 2, (some (FieldType.int)), some 13) := gMtc_4 (j := 14) rfl
theorem sl_174 : Cond.selects yX13_good.cls yX13_good yX13_good ∈ gTw := (gTw_p 81 (by decide +kernel) (by decide +kernel))
theorem im_174 : Cond.instanceMethod yX13_good ∈ gTw := (gTw_8 134 (by decide +kernel) (by decide +kernel))
theorem mo_175 : gMok (yX13_granted, cX13_granted, 1, (some (FieldType.boolean)), some 13) 0 := ⟨(gTw_10 24 (by decide +kernel) (by decide +kernel)), (gTw_1 13 (by decide +kernel) (by decide +kernel)), ⟨by decide, by decide, by decide +kernel⟩, by decide⟩
theorem mt_175 : gMt[175]? = some (yX13_granted, cX13_granted, 1, (some (FieldType.boolean)), some 13) := gMtc_4 (j := 15) rfl
theorem sl_175 : Cond.selects yX13_granted.cls yX13_granted yX13_granted ∈ gTw := (gTw_p 125 (by decide +kernel) (by decide +kernel))
theorem im_175 : Cond.instanceMethod yX13_granted ∈ gTw := (gTw_10 23 (by decide +kernel) (by decide +kernel))
theorem mo_176 : gMok (yX13_in, cX13_in, 3, (some (FieldType.boolean)), none) 3 := ⟨(gTw_8 64 (by decide +kernel) (by decide +kernel)), (gTw_1 13 (by decide +kernel) (by decide +kernel)), ⟨by decide, by decide, by decide +kernel⟩, by decide⟩
theorem mt_176 : gMt[176]? = some (yX13_in, cX13_in, 3, (some (FieldType.boolean)), none) := gMtc_4 (j := 16) rfl
theorem sm_176 : Cond.static yX13_in ∈ gTw := (gTw_8 63 (by decide +kernel) (by decide +kernel))
theorem mo_177 : gMok (yX13_bit, cX13_bit, 2, (some (FieldType.boolean)), none) 2 := ⟨(gTw_9 223 (by decide +kernel) (by decide +kernel)), (gTw_1 13 (by decide +kernel) (by decide +kernel)), ⟨by decide, by decide, by decide +kernel⟩, by decide⟩
theorem mt_177 : gMt[177]? = some (yX13_bit, cX13_bit, 2, (some (FieldType.boolean)), none) := gMtc_4 (j := 17) rfl
theorem sm_177 : Cond.static yX13_bit ∈ gTw := (gTw_9 222 (by decide +kernel) (by decide +kernel))
theorem mo_178 : gMok (yX13_bits, cX13_bits, 3, (some (FieldType.int)), none) 1 := ⟨(gTw_8 187 (by decide +kernel) (by decide +kernel)), (gTw_1 13 (by decide +kernel) (by decide +kernel)), ⟨by decide, by decide, by decide +kernel⟩, by decide⟩
theorem mt_178 : gMt[178]? = some (yX13_bits, cX13_bits, 3, (some (FieldType.int)), none) := gMtc_4 (j := 18) rfl
theorem sm_178 : Cond.static yX13_bits ∈ gTw := (gTw_8 186 (by decide +kernel) (by decide +kernel))
theorem mo_179 : gMok (yX13_byteAt, cX13_byteAt, 2, (some (FieldType.int)), some 13) 1 := ⟨(gTw_8 11 (by decide +kernel) (by decide +kernel)), (gTw_1 13 (by decide +kernel) (by decide +kernel)), ⟨by decide, by decide, by decide +kernel⟩, by decide⟩
theorem mt_179 : gMt[179]? = some (yX13_byteAt, cX13_byteAt, 2, (some (FieldType.int)), some 13) := gMtc_4 (j := 19) rfl
theorem sl_179 : Cond.selects yX13_byteAt.cls yX13_byteAt yX13_byteAt ∈ gTw := (gTw_p 61 (by decide +kernel) (by decide +kernel))
theorem im_179 : Cond.instanceMethod yX13_byteAt ∈ gTw := (gTw_8 10 (by decide +kernel) (by decide +kernel))
theorem mo_180 : gMok (yX13_isLetter, cX13_isLetter, 1, (some (FieldType.boolean)), none) 1 := ⟨(gTw_8 14 (by decide +kernel) (by decide +kernel)), (gTw_1 13 (by decide +kernel) (by decide +kernel)), ⟨by decide, by decide, by decide +kernel⟩, by decide⟩
theorem mt_180 : gMt[180]? = some (yX13_isLetter, cX13_isLetter, 1, (some (FieldType.boolean)), none) := gMtc_4 (j := 20) rfl
theorem sm_180 : Cond.static yX13_isLetter ∈ gTw := (gTw_8 13 (by decide +kernel) (by decide +kernel))
theorem mo_181 : gMok (yX13_isDigit, cX13_isDigit, 1, (some (FieldType.boolean)), none) 1 := ⟨(gTw_8 18 (by decide +kernel) (by decide +kernel)), (gTw_1 13 (by decide +kernel) (by decide +kernel)), ⟨by decide, by decide, by decide +kernel⟩, by decide⟩
theorem mt_181 : gMt[181]? = some (yX13_isDigit, cX13_isDigit, 1, (some (FieldType.boolean)), none) := gMtc_4 (j := 21) rfl
theorem sm_181 : Cond.static yX13_isDigit ∈ gTw := (gTw_8 17 (by decide +kernel) (by decide +kernel))
theorem mo_182 : gMok (yX13_wordOf, cX13_wordOf, 4, (some (FieldType.long)), none) 1 := ⟨(gTw_8 34 (by decide +kernel) (by decide +kernel)), (gTw_1 13 (by decide +kernel) (by decide +kernel)), ⟨by decide, by decide, by decide +kernel⟩, by decide⟩
theorem mt_182 : gMt[182]? = some (yX13_wordOf, cX13_wordOf, 4, (some (FieldType.long)), none) := gMtc_4 (j := 22) rfl
theorem sm_182 : Cond.static yX13_wordOf ∈ gTw := (gTw_8 33 (by decide +kernel) (by decide +kernel))
theorem mo_183 : gMok (yX13_goesOn, cX13_goesOn, 3, none, some 13) 0 := ⟨(gTw_8 7 (by decide +kernel) (by decide +kernel)), (gTw_1 13 (by decide +kernel) (by decide +kernel)), ⟨by decide, by decide, by decide +kernel⟩, by decide⟩
theorem mt_183 : gMt[183]? = some (yX13_goesOn, cX13_goesOn, 3, none, some 13) := gMtc_4 (j := 23) rfl
theorem sl_183 : Cond.selects yX13_goesOn.cls yX13_goesOn yX13_goesOn ∈ gTw := (gTw_p 60 (by decide +kernel) (by decide +kernel))
theorem im_183 : Cond.instanceMethod yX13_goesOn ∈ gTw := (gTw_8 6 (by decide +kernel) (by decide +kernel))
theorem mo_184 : gMok (yX13_flaw, cX13_flaw, 2, none, some 13) 1 := ⟨(gTw_8 44 (by decide +kernel) (by decide +kernel)), (gTw_1 13 (by decide +kernel) (by decide +kernel)), ⟨by decide, by decide, by decide +kernel⟩, by decide⟩
theorem mt_184 : gMt[184]? = some (yX13_flaw, cX13_flaw, 2, none, some 13) := gMtc_4 (j := 24) rfl
theorem sl_184 : Cond.selects yX13_flaw.cls yX13_flaw yX13_flaw ∈ gTw := (gTw_p 66 (by decide +kernel) (by decide +kernel))
theorem im_184 : Cond.instanceMethod yX13_flaw ∈ gTw := (gTw_8 43 (by decide +kernel) (by decide +kernel))
theorem mo_185 : gMok (yX13_isWord, cX13_isWord, 2, (some (FieldType.boolean)), some 13) 1 := ⟨(gTw_8 31 (by decide +kernel) (by decide +kernel)), (gTw_1 13 (by decide +kernel) (by decide +kernel)), ⟨by decide, by decide, by decide +kernel⟩, by decide⟩
theorem mt_185 : gMt[185]? = some (yX13_isWord, cX13_isWord, 2, (some (FieldType.boolean)), some 13) := gMtc_4 (j := 25) rfl
theorem sl_185 : Cond.selects yX13_isWord.cls yX13_isWord yX13_isWord ∈ gTw := (gTw_p 64 (by decide +kernel) (by decide +kernel))
theorem im_185 : Cond.instanceMethod yX13_isWord ∈ gTw := (gTw_8 30 (by decide +kernel) (by decide +kernel))
theorem mo_186 : gMok (yX13_eatsSemicolon, cX13_eatsSemicolon, 2, (some (FieldType.boolean)), some 13) 0 := ⟨(gTw_8 131 (by decide +kernel) (by decide +kernel)), (gTw_1 13 (by decide +kernel) (by decide +kernel)), ⟨by decide, by decide, by decide +kernel⟩, by decide⟩
theorem mt_186 : gMt[186]? = some (yX13_eatsSemicolon, cX13_eatsSemicolon, 2, (some (FieldType.boolean)), some 13) := gMtc_4 (j := 26) rfl
theorem sl_186 : Cond.selects yX13_eatsSemicolon.cls yX13_eatsSemicolon yX13_eatsSemicolon ∈ gTw := (gTw_p 80 (by decide +kernel) (by decide +kernel))
theorem im_186 : Cond.instanceMethod yX13_eatsSemicolon ∈ gTw := (gTw_8 130 (by decide +kernel) (by decide +kernel))
theorem mo_187 : gMok (yX13_needs, cX13_needs, 2, none, some 13) 1 := ⟨(gTw_8 53 (by decide +kernel) (by decide +kernel)), (gTw_1 13 (by decide +kernel) (by decide +kernel)), ⟨by decide, by decide, by decide +kernel⟩, by decide⟩
theorem mt_187 : gMt[187]? = some (yX13_needs, cX13_needs, 2, none, some 13) := gMtc_4 (j := 27) rfl
theorem sl_187 : Cond.selects yX13_needs.cls yX13_needs yX13_needs ∈ gTw := (gTw_p 68 (by decide +kernel) (by decide +kernel))
theorem im_187 : Cond.instanceMethod yX13_needs ∈ gTw := (gTw_8 52 (by decide +kernel) (by decide +kernel))
theorem mo_188 : gMok (yX13_needsComma, cX13_needsComma, 1, none, some 13) 0 := ⟨(gTw_8 119 (by decide +kernel) (by decide +kernel)), (gTw_1 13 (by decide +kernel) (by decide +kernel)), ⟨by decide, by decide, by decide +kernel⟩, by decide⟩
theorem mt_188 : gMt[188]? = some (yX13_needsComma, cX13_needsComma, 1, none, some 13) := gMtc_4 (j := 28) rfl
theorem sl_188 : Cond.selects yX13_needsComma.cls yX13_needsComma yX13_needsComma ∈ gTw := (gTw_p 77 (by decide +kernel) (by decide +kernel))
theorem im_188 : Cond.instanceMethod yX13_needsComma ∈ gTw := (gTw_8 118 (by decide +kernel) (by decide +kernel))
theorem mo_189 : gMok (yX13_bounded, cX13_bounded, 3, (some (FieldType.int)), some 13) 2 := ⟨(gTw_8 61 (by decide +kernel) (by decide +kernel)), (gTw_1 13 (by decide +kernel) (by decide +kernel)), ⟨by decide, by decide, by decide +kernel⟩, by decide⟩
theorem mt_189 : gMt[189]? = some (yX13_bounded, cX13_bounded, 3, (some (FieldType.int)), some 13) := gMtc_4 (j := 29) rfl
theorem sl_189 : Cond.selects yX13_bounded.cls yX13_bounded yX13_bounded ∈ gTw := (gTw_p 70 (by decide +kernel) (by decide +kernel))
theorem im_189 : Cond.instanceMethod yX13_bounded ∈ gTw := (gTw_8 60 (by decide +kernel) (by decide +kernel))
theorem mo_190 : gMok (yX13_readWhole, cX13_readWhole, 4, (some (FieldType.int)), some 13) 2 := ⟨(gTw_8 57 (by decide +kernel) (by decide +kernel)), (gTw_1 13 (by decide +kernel) (by decide +kernel)), ⟨by decide, by decide, by decide +kernel⟩, by decide⟩
theorem mt_190 : gMt[190]? = some (yX13_readWhole, cX13_readWhole, 4, (some (FieldType.int)), some 13) := gMtc_4 (j := 30) rfl
theorem sl_190 : Cond.selects yX13_readWhole.cls yX13_readWhole yX13_readWhole ∈ gTw := (gTw_p 69 (by decide +kernel) (by decide +kernel))
theorem im_190 : Cond.instanceMethod yX13_readWhole ∈ gTw := (gTw_8 56 (by decide +kernel) (by decide +kernel))
theorem mo_191 : gMok (yX13_readPart, cX13_readPart, 4, (some (FieldType.int)), some 13) 3 := ⟨(gTw_8 49 (by decide +kernel) (by decide +kernel)), (gTw_1 13 (by decide +kernel) (by decide +kernel)), ⟨by decide, by decide, by decide +kernel⟩, by decide⟩
theorem mt_191 : gMt[191]? = some (yX13_readPart, cX13_readPart, 4, (some (FieldType.int)), some 13) := gMtc_4 (j := 31) rfl
theorem sl_191 : Cond.selects yX13_readPart.cls yX13_readPart yX13_readPart ∈ gTw := (gTw_p 67 (by decide +kernel) (by decide +kernel))
theorem im_191 : Cond.instanceMethod yX13_readPart ∈ gTw := (gTw_8 48 (by decide +kernel) (by decide +kernel))
theorem mo_192 : gMok (yX13_isName, cX13_isName, 1, (some (FieldType.boolean)), some 13) 0 := ⟨(gTw_8 80 (by decide +kernel) (by decide +kernel)), (gTw_1 13 (by decide +kernel) (by decide +kernel)), ⟨by decide, by decide, by decide +kernel⟩, by decide⟩
theorem mt_192 : gMt[192]? = some (yX13_isName, cX13_isName, 1, (some (FieldType.boolean)), some 13) := gMtc_4 (j := 32) rfl
theorem sl_192 : Cond.selects yX13_isName.cls yX13_isName yX13_isName ∈ gTw := (gTw_p 73 (by decide +kernel) (by decide +kernel))
theorem im_192 : Cond.instanceMethod yX13_isName ∈ gTw := (gTw_8 79 (by decide +kernel) (by decide +kernel))
theorem mo_193 : gMok (yX13_begins, cX13_begins, 3, none, some 13) 2 := ⟨(gTw_8 76 (by decide +kernel) (by decide +kernel)), (gTw_1 13 (by decide +kernel) (by decide +kernel)), ⟨by decide, by decide, by decide +kernel⟩, by decide⟩
theorem mt_193 : gMt[193]? = some (yX13_begins, cX13_begins, 3, none, some 13) := gMtc_4 (j := 33) rfl
theorem sl_193 : Cond.selects yX13_begins.cls yX13_begins yX13_begins ∈ gTw := (gTw_p 72 (by decide +kernel) (by decide +kernel))
theorem im_193 : Cond.instanceMethod yX13_begins ∈ gTw := (gTw_8 75 (by decide +kernel) (by decide +kernel))
theorem mo_194 : gMok (yX13_known, cX13_known, 2, (some (FieldType.int)), some 13) 0 := ⟨(gTw_8 110 (by decide +kernel) (by decide +kernel)), (gTw_1 13 (by decide +kernel) (by decide +kernel)), ⟨by decide, by decide, by decide +kernel⟩, by decide⟩
theorem mt_194 : gMt[194]? = some (yX13_known, cX13_known, 2, (some (FieldType.int)), some 13) := gMtc_4 (j := 34) rfl
theorem sl_194 : Cond.selects yX13_known.cls yX13_known yX13_known ∈ gTw := (gTw_p 75 (by decide +kernel) (by decide +kernel))
theorem im_194 : Cond.instanceMethod yX13_known ∈ gTw := (gTw_8 109 (by decide +kernel) (by decide +kernel))
theorem mo_195 : gMok (yX13_readAll, cX13_readAll, 2, none, some 13) 0 := ⟨(gTw_8 22 (by decide +kernel) (by decide +kernel)), (gTw_1 13 (by decide +kernel) (by decide +kernel)), ⟨by decide, by decide, by decide +kernel⟩, by decide⟩
theorem mt_195 : gMt[195]? = some (yX13_readAll, cX13_readAll, 2, none, some 13) := gMtc_4 (j := 35) rfl
theorem sl_195 : Cond.selects yX13_readAll.cls yX13_readAll yX13_readAll ∈ gTw := (gTw_p 62 (by decide +kernel) (by decide +kernel))
theorem im_195 : Cond.instanceMethod yX13_readAll ∈ gTw := (gTw_8 21 (by decide +kernel) (by decide +kernel))
theorem mo_196 : gMok (yX13_readLine, cX13_readLine, 1, none, some 13) 0 := ⟨(gTw_8 26 (by decide +kernel) (by decide +kernel)), (gTw_1 13 (by decide +kernel) (by decide +kernel)), ⟨by decide, by decide, by decide +kernel⟩, by decide⟩
theorem mt_196 : gMt[196]? = some (yX13_readLine, cX13_readLine, 1, none, some 13) := gMtc_4 (j := 36) rfl
theorem sl_196 : Cond.selects yX13_readLine.cls yX13_readLine yX13_readLine ∈ gTw := (gTw_p 63 (by decide +kernel) (by decide +kernel))
theorem im_196 : Cond.instanceMethod yX13_readLine ∈ gTw := (gTw_8 25 (by decide +kernel) (by decide +kernel))
theorem mo_197 : gMok (yX13_readGlass, cX13_readGlass, 5, none, some 13) 0 := ⟨(gTw_8 40 (by decide +kernel) (by decide +kernel)), (gTw_1 13 (by decide +kernel) (by decide +kernel)), ⟨by decide, by decide, by decide +kernel⟩, by decide⟩
theorem mt_197 : gMt[197]? = some (yX13_readGlass, cX13_readGlass, 5, none, some 13) := gMtc_4 (j := 37) rfl
theorem sl_197 : Cond.selects yX13_readGlass.cls yX13_readGlass yX13_readGlass ∈ gTw := (gTw_p 65 (by decide +kernel) (by decide +kernel))
theorem im_197 : Cond.instanceMethod yX13_readGlass ∈ gTw := (gTw_8 39 (by decide +kernel) (by decide +kernel))
theorem mo_198 : gMok (yX13_readPerson, cX13_readPerson, 10, none, some 13) 0 := ⟨(gTw_8 72 (by decide +kernel) (by decide +kernel)), (gTw_1 13 (by decide +kernel) (by decide +kernel)), ⟨by decide, by decide, by decide +kernel⟩, by decide⟩
theorem mt_198 : gMt[198]? = some (yX13_readPerson, cX13_readPerson, 10, none, some 13) := gMtc_4 (j := 38) rfl
theorem sl_198 : Cond.selects yX13_readPerson.cls yX13_readPerson yX13_readPerson ∈ gTw := (gTw_p 71 (by decide +kernel) (by decide +kernel))
theorem im_198 : Cond.instanceMethod yX13_readPerson ∈ gTw := (gTw_8 71 (by decide +kernel) (by decide +kernel))
theorem mo_199 : gMok (yX13_readStay, cX13_readStay, 5, none, some 13) 0 := ⟨(gTw_8 106 (by decide +kernel) (by decide +kernel)), (gTw_1 13 (by decide +kernel) (by decide +kernel)), ⟨by decide, by decide, by decide +kernel⟩, by decide⟩
theorem mt_199 : gMt[199]? = some (yX13_readStay, cX13_readStay, 5, none, some 13) := gMtc_4 (j := 39) rfl
theorem sl_199 : Cond.selects yX13_readStay.cls yX13_readStay yX13_readStay ∈ gTw := (gTw_p 74 (by decide +kernel) (by decide +kernel))
theorem im_199 : Cond.instanceMethod yX13_readStay ∈ gTw := (gTw_8 105 (by decide +kernel) (by decide +kernel))
theorem mo_200 : gMok (yX13_readMove, cX13_readMove, 4, none, some 13) 0 := ⟨(gTw_8 115 (by decide +kernel) (by decide +kernel)), (gTw_1 13 (by decide +kernel) (by decide +kernel)), ⟨by decide, by decide, by decide +kernel⟩, by decide⟩
theorem mt_200 : gMt[200]? = some (yX13_readMove, cX13_readMove, 4, none, some 13) := gMtc_5 (j := 0) rfl
theorem sl_200 : Cond.selects yX13_readMove.cls yX13_readMove yX13_readMove ∈ gTw := (gTw_p 76 (by decide +kernel) (by decide +kernel))
theorem im_200 : Cond.instanceMethod yX13_readMove ∈ gTw := (gTw_8 114 (by decide +kernel) (by decide +kernel))
theorem mo_201 : gMok (yX13_readSeen, cX13_readSeen, 4, none, some 13) 0 := ⟨(gTw_8 123 (by decide +kernel) (by decide +kernel)), (gTw_1 13 (by decide +kernel) (by decide +kernel)), ⟨by decide, by decide, by decide +kernel⟩, by decide⟩
theorem mt_201 : gMt[201]? = some (yX13_readSeen, cX13_readSeen, 4, none, some 13) := gMtc_5 (j := 1) rfl
theorem sl_201 : Cond.selects yX13_readSeen.cls yX13_readSeen yX13_readSeen ∈ gTw := (gTw_p 78 (by decide +kernel) (by decide +kernel))
theorem im_201 : Cond.instanceMethod yX13_readSeen ∈ gTw := (gTw_8 122 (by decide +kernel) (by decide +kernel))
theorem mo_202 : gMok (yX13_readSays, cX13_readSays, 4, none, some 13) 0 := ⟨(gTw_8 127 (by decide +kernel) (by decide +kernel)), (gTw_1 13 (by decide +kernel) (by decide +kernel)), ⟨by decide, by decide, by decide +kernel⟩, by decide⟩
theorem mt_202 : gMt[202]? = some (yX13_readSays, cX13_readSays, 4, none, some 13) := gMtc_5 (j := 2) rfl
theorem sl_202 : Cond.selects yX13_readSays.cls yX13_readSays yX13_readSays ∈ gTw := (gTw_p 79 (by decide +kernel) (by decide +kernel))
theorem im_202 : Cond.instanceMethod yX13_readSays ∈ gTw := (gTw_8 126 (by decide +kernel) (by decide +kernel))
theorem mo_207 : gMok (yX13_kindOf, cX13_kindOf, 2, (some (FieldType.int)), some 13) 1 := ⟨(gTw_9 4 (by decide +kernel) (by decide +kernel)), (gTw_1 13 (by decide +kernel) (by decide +kernel)), ⟨by decide, by decide, by decide +kernel⟩, by decide⟩
theorem mt_207 : gMt[207]? = some (yX13_kindOf, cX13_kindOf, 2, (some (FieldType.int)), some 13) := gMtc_5 (j := 7) rfl
theorem sl_207 : Cond.selects yX13_kindOf.cls yX13_kindOf yX13_kindOf ∈ gTw := (gTw_p 96 (by decide +kernel) (by decide +kernel))
theorem im_207 : Cond.instanceMethod yX13_kindOf ∈ gTw := (gTw_9 3 (by decide +kernel) (by decide +kernel))
theorem mo_208 : gMok (yX13_habitOf, cX13_habitOf, 2, (some (FieldType.int)), some 13) 1 := ⟨(gTw_8 219 (by decide +kernel) (by decide +kernel)), (gTw_1 13 (by decide +kernel) (by decide +kernel)), ⟨by decide, by decide, by decide +kernel⟩, by decide⟩
theorem mt_208 : gMt[208]? = some (yX13_habitOf, cX13_habitOf, 2, (some (FieldType.int)), some 13) := gMtc_5 (j := 8) rfl
theorem sl_208 : Cond.selects yX13_habitOf.cls yX13_habitOf yX13_habitOf ∈ gTw := (gTw_p 90 (by decide +kernel) (by decide +kernel))
theorem im_208 : Cond.instanceMethod yX13_habitOf ∈ gTw := (gTw_8 218 (by decide +kernel) (by decide +kernel))
theorem mo_209 : gMok (yX13_runs, cX13_runs, 1, none, some 13) 0 := ⟨(gTw_8 195 (by decide +kernel) (by decide +kernel)), (gTw_1 13 (by decide +kernel) (by decide +kernel)), ⟨by decide, by decide, by decide +kernel⟩, by decide⟩
theorem mt_209 : gMt[209]? = some (yX13_runs, cX13_runs, 1, none, some 13) := gMtc_5 (j := 9) rfl
theorem sl_209 : Cond.selects yX13_runs.cls yX13_runs yX13_runs ∈ gTw := (gTw_p 85 (by decide +kernel) (by decide +kernel))
theorem im_209 : Cond.instanceMethod yX13_runs ∈ gTw := (gTw_8 194 (by decide +kernel) (by decide +kernel))
theorem mo_210 : gMok (yX13_runsBy, cX13_runsBy, 2, none, some 13) 0 := ⟨(gTw_8 199 (by decide +kernel) (by decide +kernel)), (gTw_1 13 (by decide +kernel) (by decide +kernel)), ⟨by decide, by decide, by decide +kernel⟩, by decide⟩
theorem mt_210 : gMt[210]? = some (yX13_runsBy, cX13_runsBy, 2, none, some 13) := gMtc_5 (j := 10) rfl
theorem sl_210 : Cond.selects yX13_runsBy.cls yX13_runsBy yX13_runsBy ∈ gTw := (gTw_p 86 (by decide +kernel) (by decide +kernel))
theorem im_210 : Cond.instanceMethod yX13_runsBy ∈ gTw := (gTw_8 198 (by decide +kernel) (by decide +kernel))
theorem mo_211 : gMok (yX13_day, cX13_day, 3, none, some 13) 1 := ⟨(gTw_8 203 (by decide +kernel) (by decide +kernel)), (gTw_1 13 (by decide +kernel) (by decide +kernel)), ⟨by decide, by decide, by decide +kernel⟩, by decide⟩
theorem mt_211 : gMt[211]? = some (yX13_day, cX13_day, 3, none, some 13) := gMtc_5 (j := 11) rfl
theorem sl_211 : Cond.selects yX13_day.cls yX13_day yX13_day ∈ gTw := (gTw_p 87 (by decide +kernel) (by decide +kernel))
theorem im_211 : Cond.instanceMethod yX13_day ∈ gTw := (gTw_8 202 (by decide +kernel) (by decide +kernel))
theorem mo_212 : gMok (yX13_inGlass, cX13_inGlass, 4, (some (FieldType.int)), some 13) 1 := ⟨(gTw_8 223 (by decide +kernel) (by decide +kernel)), (gTw_1 13 (by decide +kernel) (by decide +kernel)), ⟨by decide, by decide, by decide +kernel⟩, by decide⟩
theorem mt_212 : gMt[212]? = some (yX13_inGlass, cX13_inGlass, 4, (some (FieldType.int)), some 13) := gMtc_5 (j := 12) rfl
theorem sl_212 : Cond.selects yX13_inGlass.cls yX13_inGlass yX13_inGlass ∈ gTw := (gTw_p 91 (by decide +kernel) (by decide +kernel))
theorem im_212 : Cond.instanceMethod yX13_inGlass ∈ gTw := (gTw_8 222 (by decide +kernel) (by decide +kernel))
theorem mo_213 : gMok (yX13_chosen, cX13_chosen, 5, (some (FieldType.int)), some 13) 1 := ⟨(gTw_8 215 (by decide +kernel) (by decide +kernel)), (gTw_1 13 (by decide +kernel) (by decide +kernel)), ⟨by decide, by decide, by decide +kernel⟩, by decide⟩
theorem mt_213 : gMt[213]? = some (yX13_chosen, cX13_chosen, 5, (some (FieldType.int)), some 13) := gMtc_5 (j := 13) rfl
theorem sl_213 : Cond.selects yX13_chosen.cls yX13_chosen yX13_chosen ∈ gTw := (gTw_p 89 (by decide +kernel) (by decide +kernel))
theorem im_213 : Cond.instanceMethod yX13_chosen ∈ gTw := (gTw_8 214 (by decide +kernel) (by decide +kernel))
theorem mo_214 : gMok (yX13_buys, cX13_buys, 4, none, some 13) 2 := ⟨(gTw_8 211 (by decide +kernel) (by decide +kernel)), (gTw_1 13 (by decide +kernel) (by decide +kernel)), ⟨by decide, by decide, by decide +kernel⟩, by decide⟩
theorem mt_214 : gMt[214]? = some (yX13_buys, cX13_buys, 4, none, some 13) := gMtc_5 (j := 14) rfl
theorem sl_214 : Cond.selects yX13_buys.cls yX13_buys yX13_buys ∈ gTw := (gTw_p 88 (by decide +kernel) (by decide +kernel))
theorem im_214 : Cond.instanceMethod yX13_buys ∈ gTw := (gTw_8 210 (by decide +kernel) (by decide +kernel))
theorem mo_215 : gMok (yX13_firstFree, cX13_firstFree, 2, (some (FieldType.int)), some 13) 0 := ⟨(gTw_8 231 (by decide +kernel) (by decide +kernel)), (gTw_1 13 (by decide +kernel) (by decide +kernel)), ⟨by decide, by decide, by decide +kernel⟩, by decide⟩
theorem mt_215 : gMt[215]? = some (yX13_firstFree, cX13_firstFree, 2, (some (FieldType.int)), some 13) := gMtc_5 (j := 15) rfl
theorem sl_215 : Cond.selects yX13_firstFree.cls yX13_firstFree yX13_firstFree ∈ gTw := (gTw_p 93 (by decide +kernel) (by decide +kernel))
theorem im_215 : Cond.instanceMethod yX13_firstFree ∈ gTw := (gTw_8 230 (by decide +kernel) (by decide +kernel))
theorem mo_216 : gMok (yX13_puts, cX13_puts, 2, none, some 13) 1 := ⟨(gTw_8 227 (by decide +kernel) (by decide +kernel)), (gTw_1 13 (by decide +kernel) (by decide +kernel)), ⟨by decide, by decide, by decide +kernel⟩, by decide⟩
theorem mt_216 : gMt[216]? = some (yX13_puts, cX13_puts, 2, none, some 13) := gMtc_5 (j := 16) rfl
theorem sl_216 : Cond.selects yX13_puts.cls yX13_puts yX13_puts ∈ gTw := (gTw_p 92 (by decide +kernel) (by decide +kernel))
theorem im_216 : Cond.instanceMethod yX13_puts ∈ gTw := (gTw_8 226 (by decide +kernel) (by decide +kernel))
theorem mo_217 : gMok (yX13_exchanges, cX13_exchanges, 5, none, some 13) 2 := ⟨(gTw_8 236 (by decide +kernel) (by decide +kernel)), (gTw_1 13 (by decide +kernel) (by decide +kernel)), ⟨by decide, by decide, by decide +kernel⟩, by decide⟩
theorem mt_217 : gMt[217]? = some (yX13_exchanges, cX13_exchanges, 5, none, some 13) := gMtc_5 (j := 17) rfl
theorem sl_217 : Cond.selects yX13_exchanges.cls yX13_exchanges yX13_exchanges ∈ gTw := (gTw_p 94 (by decide +kernel) (by decide +kernel))
theorem im_217 : Cond.instanceMethod yX13_exchanges ∈ gTw := (gTw_8 235 (by decide +kernel) (by decide +kernel))
theorem mo_218 : gMok (yX13_brushesAt, cX13_brushesAt, 5, none, some 13) 2 := ⟨(gTw_9 0 (by decide +kernel) (by decide +kernel)), (gTw_1 13 (by decide +kernel) (by decide +kernel)), ⟨by decide, by decide, by decide +kernel⟩, by decide⟩
theorem mt_218 : gMt[218]? = some (yX13_brushesAt, cX13_brushesAt, 5, none, some 13) := gMtc_5 (j := 18) rfl
theorem sl_218 : Cond.selects yX13_brushesAt.cls yX13_brushesAt yX13_brushesAt ∈ gTw := (gTw_p 95 (by decide +kernel) (by decide +kernel))
theorem im_218 : Cond.instanceMethod yX13_brushesAt ∈ gTw := (gTw_8 239 (by decide +kernel) (by decide +kernel))
theorem mo_219 : gMok (yX13_isPerson, cX13_isPerson, 2, (some (FieldType.boolean)), some 13) 1 := ⟨(gTw_8 151 (by decide +kernel) (by decide +kernel)), (gTw_1 13 (by decide +kernel) (by decide +kernel)), ⟨by decide, by decide, by decide +kernel⟩, by decide⟩
theorem mt_219 : gMt[219]? = some (yX13_isPerson, cX13_isPerson, 2, (some (FieldType.boolean)), some 13) := gMtc_5 (j := 19) rfl
theorem sl_219 : Cond.selects yX13_isPerson.cls yX13_isPerson yX13_isPerson ∈ gTw := (gTw_p 82 (by decide +kernel) (by decide +kernel))
theorem im_219 : Cond.instanceMethod yX13_isPerson ∈ gTw := (gTw_8 150 (by decide +kernel) (by decide +kernel))
theorem mo_220 : gMok (yX13_isDay, cX13_isDay, 2, (some (FieldType.boolean)), some 13) 1 := ⟨(gTw_8 171 (by decide +kernel) (by decide +kernel)), (gTw_1 13 (by decide +kernel) (by decide +kernel)), ⟨by decide, by decide, by decide +kernel⟩, by decide⟩
theorem mt_220 : gMt[220]? = some (yX13_isDay, cX13_isDay, 2, (some (FieldType.boolean)), some 13) := gMtc_5 (j := 20) rfl
theorem sl_220 : Cond.selects yX13_isDay.cls yX13_isDay yX13_isDay ∈ gTw := (gTw_p 84 (by decide +kernel) (by decide +kernel))
theorem im_220 : Cond.instanceMethod yX13_isDay ∈ gTw := (gTw_8 170 (by decide +kernel) (by decide +kernel))
theorem mo_221 : gMok (yX13_isPlace, cX13_isPlace, 2, (some (FieldType.boolean)), some 13) 1 := ⟨(gTw_9 20 (by decide +kernel) (by decide +kernel)), (gTw_1 13 (by decide +kernel) (by decide +kernel)), ⟨by decide, by decide, by decide +kernel⟩, by decide⟩
theorem mt_221 : gMt[221]? = some (yX13_isPlace, cX13_isPlace, 2, (some (FieldType.boolean)), some 13) := gMtc_5 (j := 21) rfl
theorem sl_221 : Cond.selects yX13_isPlace.cls yX13_isPlace yX13_isPlace ∈ gTw := (gTw_p 97 (by decide +kernel) (by decide +kernel))
theorem im_221 : Cond.instanceMethod yX13_isPlace ∈ gTw := (gTw_9 19 (by decide +kernel) (by decide +kernel))
theorem mo_222 : gMok (yX13_refusesDay, cX13_refusesDay, 3, (some (FieldType.int)), some 13) 2 := ⟨(gTw_8 167 (by decide +kernel) (by decide +kernel)), (gTw_1 13 (by decide +kernel) (by decide +kernel)), ⟨by decide, by decide, by decide +kernel⟩, by decide⟩
theorem mt_222 : gMt[222]? = some (yX13_refusesDay, cX13_refusesDay, 3, (some (FieldType.int)), some 13) := gMtc_5 (j := 22) rfl
theorem sl_222 : Cond.selects yX13_refusesDay.cls yX13_refusesDay yX13_refusesDay ∈ gTw := (gTw_p 83 (by decide +kernel) (by decide +kernel))
theorem im_222 : Cond.instanceMethod yX13_refusesDay ∈ gTw := (gTw_8 166 (by decide +kernel) (by decide +kernel))
theorem mo_230 : gMok (yX13_standsIn, cX13_standsIn, 3, (some (FieldType.int)), some 13) 2 := ⟨(gTw_9 24 (by decide +kernel) (by decide +kernel)), (gTw_1 13 (by decide +kernel) (by decide +kernel)), ⟨by decide, by decide, by decide +kernel⟩, by decide⟩
theorem mt_230 : gMt[230]? = some (yX13_standsIn, cX13_standsIn, 3, (some (FieldType.int)), some 13) := gMtc_5 (j := 30) rfl
theorem sl_230 : Cond.selects yX13_standsIn.cls yX13_standsIn yX13_standsIn ∈ gTw := (gTw_p 98 (by decide +kernel) (by decide +kernel))
theorem im_230 : Cond.instanceMethod yX13_standsIn ∈ gTw := (gTw_9 23 (by decide +kernel) (by decide +kernel))
theorem mo_233 : gMok (yX13_colourIn, cX13_colourIn, 3, (some (FieldType.int)), some 13) 2 := ⟨(gTw_9 32 (by decide +kernel) (by decide +kernel)), (gTw_1 13 (by decide +kernel) (by decide +kernel)), ⟨by decide, by decide, by decide +kernel⟩, by decide⟩
theorem mt_233 : gMt[233]? = some (yX13_colourIn, cX13_colourIn, 3, (some (FieldType.int)), some 13) := gMtc_5 (j := 33) rfl
theorem sl_233 : Cond.selects yX13_colourIn.cls yX13_colourIn yX13_colourIn ∈ gTw := (gTw_p 99 (by decide +kernel) (by decide +kernel))
theorem im_233 : Cond.instanceMethod yX13_colourIn ∈ gTw := (gTw_9 31 (by decide +kernel) (by decide +kernel))
theorem mo_236 : gMok (yX13_there, cX13_there, 4, (some (FieldType.int)), some 13) 1 := ⟨(gTw_9 48 (by decide +kernel) (by decide +kernel)), (gTw_1 13 (by decide +kernel) (by decide +kernel)), ⟨by decide, by decide, by decide +kernel⟩, by decide⟩
theorem mt_236 : gMt[236]? = some (yX13_there, cX13_there, 4, (some (FieldType.int)), some 13) := gMtc_5 (j := 36) rfl
theorem sl_236 : Cond.selects yX13_there.cls yX13_there yX13_there ∈ gTw := (gTw_p 100 (by decide +kernel) (by decide +kernel))
theorem im_236 : Cond.instanceMethod yX13_there ∈ gTw := (gTw_9 47 (by decide +kernel) (by decide +kernel))
theorem mo_239 : gMok (yX13_useOf, cX13_useOf, 3, (some (FieldType.int)), some 13) 2 := ⟨(gTw_9 60 (by decide +kernel) (by decide +kernel)), (gTw_1 13 (by decide +kernel) (by decide +kernel)), ⟨by decide, by decide, by decide +kernel⟩, by decide⟩
theorem mt_239 : gMt[239]? = some (yX13_useOf, cX13_useOf, 3, (some (FieldType.int)), some 13) := gMtc_5 (j := 39) rfl
theorem sl_239 : Cond.selects yX13_useOf.cls yX13_useOf yX13_useOf ∈ gTw := (gTw_p 101 (by decide +kernel) (by decide +kernel))
theorem im_239 : Cond.instanceMethod yX13_useOf ∈ gTw := (gTw_9 59 (by decide +kernel) (by decide +kernel))
theorem mo_242 : gMok (yX13_isShared, cX13_isShared, 3, (some (FieldType.boolean)), some 13) 2 := ⟨(gTw_9 76 (by decide +kernel) (by decide +kernel)), (gTw_1 13 (by decide +kernel) (by decide +kernel)), ⟨by decide, by decide, by decide +kernel⟩, by decide⟩
theorem mt_242 : gMt[242]? = some (yX13_isShared, cX13_isShared, 3, (some (FieldType.boolean)), some 13) := gMtc_6 (j := 2) rfl
theorem sl_242 : Cond.selects yX13_isShared.cls yX13_isShared yX13_isShared ∈ gTw := (gTw_p 103 (by decide +kernel) (by decide +kernel))
theorem im_242 : Cond.instanceMethod yX13_isShared ∈ gTw := (gTw_9 75 (by decide +kernel) (by decide +kernel))
theorem mo_243 : gMok (yX13_sharedIn, cX13_sharedIn, 4, (some (FieldType.int)), some 13) 1 := ⟨(gTw_9 72 (by decide +kernel) (by decide +kernel)), (gTw_1 13 (by decide +kernel) (by decide +kernel)), ⟨by decide, by decide, by decide +kernel⟩, by decide⟩
theorem mt_243 : gMt[243]? = some (yX13_sharedIn, cX13_sharedIn, 4, (some (FieldType.int)), some 13) := gMtc_6 (j := 3) rfl
theorem sl_243 : Cond.selects yX13_sharedIn.cls yX13_sharedIn yX13_sharedIn ∈ gTw := (gTw_p 102 (by decide +kernel) (by decide +kernel))
theorem im_243 : Cond.instanceMethod yX13_sharedIn ∈ gTw := (gTw_9 71 (by decide +kernel) (by decide +kernel))
theorem mo_244 : gMok (yX13_sharedInAll, cX13_sharedInAll, 3, (some (FieldType.int)), some 13) 0 := ⟨(gTw_9 84 (by decide +kernel) (by decide +kernel)), (gTw_1 13 (by decide +kernel) (by decide +kernel)), ⟨by decide, by decide, by decide +kernel⟩, by decide⟩
theorem mt_244 : gMt[244]? = some (yX13_sharedInAll, cX13_sharedInAll, 3, (some (FieldType.int)), some 13) := gMtc_6 (j := 4) rfl
theorem sl_244 : Cond.selects yX13_sharedInAll.cls yX13_sharedInAll yX13_sharedInAll ∈ gTw := (gTw_p 104 (by decide +kernel) (by decide +kernel))
theorem im_244 : Cond.instanceMethod yX13_sharedInAll ∈ gTw := (gTw_9 83 (by decide +kernel) (by decide +kernel))
theorem mo_248 : gMok (yX13_sinsOf, cX13_sinsOf, 4, (some (FieldType.int)), some 13) 1 := ⟨(gTw_9 96 (by decide +kernel) (by decide +kernel)), (gTw_1 13 (by decide +kernel) (by decide +kernel)), ⟨by decide, by decide, by decide +kernel⟩, by decide⟩
theorem mt_248 : gMt[248]? = some (yX13_sinsOf, cX13_sinsOf, 4, (some (FieldType.int)), some 13) := gMtc_6 (j := 8) rfl
theorem sl_248 : Cond.selects yX13_sinsOf.cls yX13_sinsOf yX13_sinsOf ∈ gTw := (gTw_p 105 (by decide +kernel) (by decide +kernel))
theorem im_248 : Cond.instanceMethod yX13_sinsOf ∈ gTw := (gTw_9 95 (by decide +kernel) (by decide +kernel))
theorem mo_250 : gMok (yX13_alikeIn, cX13_alikeIn, 5, (some (FieldType.int)), some 13) 1 := ⟨(gTw_9 104 (by decide +kernel) (by decide +kernel)), (gTw_1 13 (by decide +kernel) (by decide +kernel)), ⟨by decide, by decide, by decide +kernel⟩, by decide⟩
theorem mt_250 : gMt[250]? = some (yX13_alikeIn, cX13_alikeIn, 5, (some (FieldType.int)), some 13) := gMtc_6 (j := 10) rfl
theorem sl_250 : Cond.selects yX13_alikeIn.cls yX13_alikeIn yX13_alikeIn ∈ gTw := (gTw_p 106 (by decide +kernel) (by decide +kernel))
theorem im_250 : Cond.instanceMethod yX13_alikeIn ∈ gTw := (gTw_9 103 (by decide +kernel) (by decide +kernel))
theorem mo_251 : gMok (yX13_alikeInAll, cX13_alikeInAll, 3, (some (FieldType.int)), some 13) 0 := ⟨(gTw_9 112 (by decide +kernel) (by decide +kernel)), (gTw_1 13 (by decide +kernel) (by decide +kernel)), ⟨by decide, by decide, by decide +kernel⟩, by decide⟩
theorem mt_251 : gMt[251]? = some (yX13_alikeInAll, cX13_alikeInAll, 3, (some (FieldType.int)), some 13) := gMtc_6 (j := 11) rfl
theorem sl_251 : Cond.selects yX13_alikeInAll.cls yX13_alikeInAll yX13_alikeInAll ∈ gTw := (gTw_p 107 (by decide +kernel) (by decide +kernel))
theorem im_251 : Cond.instanceMethod yX13_alikeInAll ∈ gTw := (gTw_9 111 (by decide +kernel) (by decide +kernel))
theorem mo_255 : gMok (yX13_daysByHabit, cX13_daysByHabit, 2, (some (FieldType.int)), some 13) 1 := ⟨(gTw_9 124 (by decide +kernel) (by decide +kernel)), (gTw_1 13 (by decide +kernel) (by decide +kernel)), ⟨by decide, by decide, by decide +kernel⟩, by decide⟩
theorem mt_255 : gMt[255]? = some (yX13_daysByHabit, cX13_daysByHabit, 2, (some (FieldType.int)), some 13) := gMtc_6 (j := 15) rfl
theorem sl_255 : Cond.selects yX13_daysByHabit.cls yX13_daysByHabit yX13_daysByHabit ∈ gTw := (gTw_p 108 (by decide +kernel) (by decide +kernel))
theorem im_255 : Cond.instanceMethod yX13_daysByHabit ∈ gTw := (gTw_9 123 (by decide +kernel) (by decide +kernel))
theorem mo_256 : gMok (yX13_sharedByKind, cX13_sharedByKind, 2, (some (FieldType.int)), some 13) 1 := ⟨(gTw_9 136 (by decide +kernel) (by decide +kernel)), (gTw_1 13 (by decide +kernel) (by decide +kernel)), ⟨by decide, by decide, by decide +kernel⟩, by decide⟩
theorem mt_256 : gMt[256]? = some (yX13_sharedByKind, cX13_sharedByKind, 2, (some (FieldType.int)), some 13) := gMtc_6 (j := 16) rfl
theorem sl_256 : Cond.selects yX13_sharedByKind.cls yX13_sharedByKind yX13_sharedByKind ∈ gTw := (gTw_p 109 (by decide +kernel) (by decide +kernel))
theorem im_256 : Cond.instanceMethod yX13_sharedByKind ∈ gTw := (gTw_9 135 (by decide +kernel) (by decide +kernel))
theorem mo_261 : gMok (yX13_areTogether, cX13_areTogether, 4, (some (FieldType.boolean)), some 13) 2 := ⟨(gTw_9 160 (by decide +kernel) (by decide +kernel)), (gTw_1 13 (by decide +kernel) (by decide +kernel)), ⟨by decide, by decide, by decide +kernel⟩, by decide⟩
theorem mt_261 : gMt[261]? = some (yX13_areTogether, cX13_areTogether, 4, (some (FieldType.boolean)), some 13) := gMtc_6 (j := 21) rfl
theorem sl_261 : Cond.selects yX13_areTogether.cls yX13_areTogether yX13_areTogether ∈ gTw := (gTw_p 113 (by decide +kernel) (by decide +kernel))
theorem im_261 : Cond.instanceMethod yX13_areTogether ∈ gTw := (gTw_9 159 (by decide +kernel) (by decide +kernel))
theorem mo_262 : gMok (yX13_isGood, cX13_isGood, 3, (some (FieldType.boolean)), some 13) 1 := ⟨(gTw_9 156 (by decide +kernel) (by decide +kernel)), (gTw_1 13 (by decide +kernel) (by decide +kernel)), ⟨by decide, by decide, by decide +kernel⟩, by decide⟩
theorem mt_262 : gMt[262]? = some (yX13_isGood, cX13_isGood, 3, (some (FieldType.boolean)), some 13) := gMtc_6 (j := 22) rfl
theorem sl_262 : Cond.selects yX13_isGood.cls yX13_isGood yX13_isGood ∈ gTw := (gTw_p 112 (by decide +kernel) (by decide +kernel))
theorem im_262 : Cond.instanceMethod yX13_isGood ∈ gTw := (gTw_9 155 (by decide +kernel) (by decide +kernel))
theorem mo_263 : gMok (yX13_gives, cX13_gives, 4, (some (FieldType.boolean)), some 13) 1 := ⟨(gTw_9 152 (by decide +kernel) (by decide +kernel)), (gTw_1 13 (by decide +kernel) (by decide +kernel)), ⟨by decide, by decide, by decide +kernel⟩, by decide⟩
theorem mt_263 : gMt[263]? = some (yX13_gives, cX13_gives, 4, (some (FieldType.boolean)), some 13) := gMtc_6 (j := 23) rfl
theorem sl_263 : Cond.selects yX13_gives.cls yX13_gives yX13_gives ∈ gTw := (gTw_p 111 (by decide +kernel) (by decide +kernel))
theorem im_263 : Cond.instanceMethod yX13_gives ∈ gTw := (gTw_9 151 (by decide +kernel) (by decide +kernel))
theorem mo_264 : gMok (yX13_fewestColours, cX13_fewestColours, 2, (some (FieldType.int)), some 13) 0 := ⟨(gTw_9 148 (by decide +kernel) (by decide +kernel)), (gTw_1 13 (by decide +kernel) (by decide +kernel)), ⟨by decide, by decide, by decide +kernel⟩, by decide⟩
theorem mt_264 : gMt[264]? = some (yX13_fewestColours, cX13_fewestColours, 2, (some (FieldType.int)), some 13) := gMtc_6 (j := 24) rfl
theorem sl_264 : Cond.selects yX13_fewestColours.cls yX13_fewestColours yX13_fewestColours ∈ gTw := (gTw_p 110 (by decide +kernel) (by decide +kernel))
theorem im_264 : Cond.instanceMethod yX13_fewestColours ∈ gTw := (gTw_9 147 (by decide +kernel) (by decide +kernel))
theorem mo_267 : gMok (yX13_wrongPlace, cX13_wrongPlace, 3, (some (FieldType.int)), some 13) 1 := ⟨(gTw_9 176 (by decide +kernel) (by decide +kernel)), (gTw_1 13 (by decide +kernel) (by decide +kernel)), ⟨by decide, by decide, by decide +kernel⟩, by decide⟩
theorem mt_267 : gMt[267]? = some (yX13_wrongPlace, cX13_wrongPlace, 3, (some (FieldType.int)), some 13) := gMtc_6 (j := 27) rfl
theorem sl_267 : Cond.selects yX13_wrongPlace.cls yX13_wrongPlace yX13_wrongPlace ∈ gTw := (gTw_p 115 (by decide +kernel) (by decide +kernel))
theorem im_267 : Cond.instanceMethod yX13_wrongPlace ∈ gTw := (gTw_9 175 (by decide +kernel) (by decide +kernel))
theorem mo_268 : gMok (yX13_firstWrong, cX13_firstWrong, 2, (some (FieldType.int)), some 13) 0 := ⟨(gTw_9 172 (by decide +kernel) (by decide +kernel)), (gTw_1 13 (by decide +kernel) (by decide +kernel)), ⟨by decide, by decide, by decide +kernel⟩, by decide⟩
theorem mt_268 : gMt[268]? = some (yX13_firstWrong, cX13_firstWrong, 2, (some (FieldType.int)), some 13) := gMtc_6 (j := 28) rfl
theorem sl_268 : Cond.selects yX13_firstWrong.cls yX13_firstWrong yX13_firstWrong ∈ gTw := (gTw_p 114 (by decide +kernel) (by decide +kernel))
theorem im_268 : Cond.instanceMethod yX13_firstWrong ∈ gTw := (gTw_9 171 (by decide +kernel) (by decide +kernel))
theorem mo_271 : gMok (yX13_explaining, cX13_explaining, 6, (some (FieldType.int)), some 13) 1 := ⟨(gTw_9 192 (by decide +kernel) (by decide +kernel)), (gTw_1 13 (by decide +kernel) (by decide +kernel)), ⟨by decide, by decide, by decide +kernel⟩, by decide⟩
theorem mt_271 : gMt[271]? = some (yX13_explaining, cX13_explaining, 6, (some (FieldType.int)), some 13) := gMtc_6 (j := 31) rfl
theorem sl_271 : Cond.selects yX13_explaining.cls yX13_explaining yX13_explaining ∈ gTw := (gTw_p 117 (by decide +kernel) (by decide +kernel))
theorem im_271 : Cond.instanceMethod yX13_explaining ∈ gTw := (gTw_9 191 (by decide +kernel) (by decide +kernel))
theorem mo_272 : gMok (yX13_refusesExplain, cX13_refusesExplain, 1, (some (FieldType.int)), some 13) 0 := ⟨(gTw_9 188 (by decide +kernel) (by decide +kernel)), (gTw_1 13 (by decide +kernel) (by decide +kernel)), ⟨by decide, by decide, by decide +kernel⟩, by decide⟩
theorem mt_272 : gMt[272]? = some (yX13_refusesExplain, cX13_refusesExplain, 1, (some (FieldType.int)), some 13) := gMtc_6 (j := 32) rfl
theorem sl_272 : Cond.selects yX13_refusesExplain.cls yX13_refusesExplain yX13_refusesExplain ∈ gTw := (gTw_p 116 (by decide +kernel) (by decide +kernel))
theorem im_272 : Cond.instanceMethod yX13_refusesExplain ∈ gTw := (gTw_9 187 (by decide +kernel) (by decide +kernel))
theorem mo_275 : gMok (yX13_holds, cX13_holds, 2, (some (FieldType.boolean)), some 13) 1 := ⟨(gTw_9 204 (by decide +kernel) (by decide +kernel)), (gTw_1 13 (by decide +kernel) (by decide +kernel)), ⟨by decide, by decide, by decide +kernel⟩, by decide⟩
theorem mt_275 : gMt[275]? = some (yX13_holds, cX13_holds, 2, (some (FieldType.boolean)), some 13) := gMtc_6 (j := 35) rfl
theorem sl_275 : Cond.selects yX13_holds.cls yX13_holds yX13_holds ∈ gTw := (gTw_p 118 (by decide +kernel) (by decide +kernel))
theorem im_275 : Cond.instanceMethod yX13_holds ∈ gTw := (gTw_9 203 (by decide +kernel) (by decide +kernel))
theorem mo_278 : gMok (yX13_mayHave, cX13_mayHave, 5, (some (FieldType.boolean)), some 13) 3 := ⟨(gTw_9 227 (by decide +kernel) (by decide +kernel)), (gTw_1 13 (by decide +kernel) (by decide +kernel)), ⟨by decide, by decide, by decide +kernel⟩, by decide⟩
theorem mt_278 : gMt[278]? = some (yX13_mayHave, cX13_mayHave, 5, (some (FieldType.boolean)), some 13) := gMtc_6 (j := 38) rfl
theorem sl_278 : Cond.selects yX13_mayHave.cls yX13_mayHave yX13_mayHave ∈ gTw := (gTw_p 121 (by decide +kernel) (by decide +kernel))
theorem im_278 : Cond.instanceMethod yX13_mayHave ∈ gTw := (gTw_9 226 (by decide +kernel) (by decide +kernel))
theorem mo_279 : gMok (yX13_laysWho, cX13_laysWho, 3, none, some 13) 1 := ⟨(gTw_9 220 (by decide +kernel) (by decide +kernel)), (gTw_1 13 (by decide +kernel) (by decide +kernel)), ⟨by decide, by decide, by decide +kernel⟩, by decide⟩
theorem mt_279 : gMt[279]? = some (yX13_laysWho, cX13_laysWho, 3, none, some 13) := gMtc_6 (j := 39) rfl
theorem sl_279 : Cond.selects yX13_laysWho.cls yX13_laysWho yX13_laysWho ∈ gTw := (gTw_p 120 (by decide +kernel) (by decide +kernel))
theorem im_279 : Cond.instanceMethod yX13_laysWho ∈ gTw := (gTw_9 219 (by decide +kernel) (by decide +kernel))
theorem mo_280 : gMok (yX13_pairs, cX13_pairs, 8, (some (FieldType.int)), some 13) 2 := ⟨(gTw_9 216 (by decide +kernel) (by decide +kernel)), (gTw_1 13 (by decide +kernel) (by decide +kernel)), ⟨by decide, by decide, by decide +kernel⟩, by decide⟩
theorem mt_280 : gMt[280]? = some (yX13_pairs, cX13_pairs, 8, (some (FieldType.int)), some 13) := gMtc_7 (j := 0) rfl
theorem sl_280 : Cond.selects yX13_pairs.cls yX13_pairs yX13_pairs ∈ gTw := (gTw_p 119 (by decide +kernel) (by decide +kernel))
theorem im_280 : Cond.instanceMethod yX13_pairs ∈ gTw := (gTw_9 215 (by decide +kernel) (by decide +kernel))
theorem mo_286 : gMok (yX13_keepsAll, cX13_keepsAll, 2, none, some 13) 0 := ⟨(gTw_10 16 (by decide +kernel) (by decide +kernel)), (gTw_1 13 (by decide +kernel) (by decide +kernel)), ⟨by decide, by decide, by decide +kernel⟩, by decide⟩
theorem mt_286 : gMt[286]? = some (yX13_keepsAll, cX13_keepsAll, 2, none, some 13) := gMtc_7 (j := 6) rfl
theorem sl_286 : Cond.selects yX13_keepsAll.cls yX13_keepsAll yX13_keepsAll ∈ gTw := (gTw_p 123 (by decide +kernel) (by decide +kernel))
theorem im_286 : Cond.instanceMethod yX13_keepsAll ∈ gTw := (gTw_10 15 (by decide +kernel) (by decide +kernel))
theorem mo_287 : gMok (yX13_adds, cX13_adds, 5, none, some 13) 3 := ⟨(gTw_10 20 (by decide +kernel) (by decide +kernel)), (gTw_1 13 (by decide +kernel) (by decide +kernel)), ⟨by decide, by decide, by decide +kernel⟩, by decide⟩
theorem mt_287 : gMt[287]? = some (yX13_adds, cX13_adds, 5, none, some 13) := gMtc_7 (j := 7) rfl
theorem sl_287 : Cond.selects yX13_adds.cls yX13_adds yX13_adds ∈ gTw := (gTw_p 124 (by decide +kernel) (by decide +kernel))
theorem im_287 : Cond.instanceMethod yX13_adds ∈ gTw := (gTw_10 19 (by decide +kernel) (by decide +kernel))
theorem mo_289 : gMok (yX13_drawn, cX13_drawn, 1, (some (FieldType.int)), some 13) 0 := ⟨(gTw_10 32 (by decide +kernel) (by decide +kernel)), (gTw_1 13 (by decide +kernel) (by decide +kernel)), ⟨by decide, by decide, by decide +kernel⟩, by decide⟩
theorem mt_289 : gMt[289]? = some (yX13_drawn, cX13_drawn, 1, (some (FieldType.int)), some 13) := gMtc_7 (j := 9) rfl
theorem sl_289 : Cond.selects yX13_drawn.cls yX13_drawn yX13_drawn ∈ gTw := (gTw_p 126 (by decide +kernel) (by decide +kernel))
theorem im_289 : Cond.instanceMethod yX13_drawn ∈ gTw := (gTw_10 31 (by decide +kernel) (by decide +kernel))
theorem mo_291 : gMok (yX13_changes, cX13_changes, 3, (some (FieldType.boolean)), some 13) 2 := ⟨(gTw_10 43 (by decide +kernel) (by decide +kernel)), (gTw_1 13 (by decide +kernel) (by decide +kernel)), ⟨by decide, by decide, by decide +kernel⟩, by decide⟩
theorem mt_291 : gMt[291]? = some (yX13_changes, cX13_changes, 3, (some (FieldType.boolean)), some 13) := gMtc_7 (j := 11) rfl
theorem sl_291 : Cond.selects yX13_changes.cls yX13_changes yX13_changes ∈ gTw := (gTw_p 127 (by decide +kernel) (by decide +kernel))
theorem im_291 : Cond.instanceMethod yX13_changes ∈ gTw := (gTw_10 42 (by decide +kernel) (by decide +kernel))
theorem mo_302 : gMok (yJ6_bitCount_0f7a4, cJ6_bitCount_0f7a4, 1, (some (FieldType.int)), none) 1 := ⟨(gTw_4 114 (by decide +kernel) (by decide +kernel)), (gTw_1 20 (by decide +kernel) (by decide +kernel)), ⟨by decide, by decide, by decide +kernel⟩, by decide⟩
theorem mt_302 : gMt[302]? = some (yJ6_bitCount_0f7a4, cJ6_bitCount_0f7a4, 1, (some (FieldType.int)), none) := gMtc_7 (j := 22) rfl
theorem sm_302 : Cond.static yJ6_bitCount_0f7a4 ∈ gTw := (gTw_4 113 (by decide +kernel) (by decide +kernel))
theorem mo_303 : gMok (yJ9_max_7cf53, cJ9_max_7cf53, 2, (some (FieldType.int)), none) 2 := ⟨(gTw_4 120 (by decide +kernel) (by decide +kernel)), (gTw_1 14 (by decide +kernel) (by decide +kernel)), ⟨by decide, by decide, by decide +kernel⟩, by decide⟩
theorem mt_303 : gMt[303]? = some (yJ9_max_7cf53, cJ9_max_7cf53, 2, (some (FieldType.int)), none) := gMtc_7 (j := 23) rfl
theorem sm_303 : Cond.static yJ9_max_7cf53 ∈ gTw := (gTw_4 119 (by decide +kernel) (by decide +kernel))
theorem mo_304 : gMok (yJ9_min_7cf53, cJ9_min_7cf53, 2, (some (FieldType.int)), none) 2 := ⟨(gTw_3 146 (by decide +kernel) (by decide +kernel)), (gTw_1 14 (by decide +kernel) (by decide +kernel)), ⟨by decide, by decide, by decide +kernel⟩, by decide⟩
theorem mt_304 : gMt[304]? = some (yJ9_min_7cf53, cJ9_min_7cf53, 2, (some (FieldType.int)), none) := gMtc_7 (j := 24) rfl
theorem sm_304 : Cond.static yJ9_min_7cf53 ∈ gTw := (gTw_3 145 (by decide +kernel) (by decide +kernel))
theorem mo_305 : gMok (yJ0_length_8abf5, cJ0_length_8abf5, 1, (some (FieldType.int)), none) 0 := ⟨(gTw_3 182 (by decide +kernel) (by decide +kernel)), (gTw_1 16 (by decide +kernel) (by decide +kernel)), ⟨by decide, by decide, by decide +kernel⟩, by decide⟩
theorem mt_305 : gMt[305]? = some (yJ0_length_8abf5, cJ0_length_8abf5, 1, (some (FieldType.int)), none) := gMtc_7 (j := 25) rfl
theorem sl_305 : Cond.selects yJ0_length_8abf5.cls yJ0_length_8abf5 yJ0_length_8abf5 ∈ gTw := (gTw_3 181 (by decide +kernel) (by decide +kernel))
theorem im_305 : Cond.instanceMethod yJ0_length_8abf5 ∈ gTw := (gTw_3 180 (by decide +kernel) (by decide +kernel))
theorem mo_306 : gMok (yJ0_charAt_5068e, cJ0_charAt_5068e, 2, (some (FieldType.char)), none) 1 := ⟨(gTw_3 192 (by decide +kernel) (by decide +kernel)), (gTw_1 16 (by decide +kernel) (by decide +kernel)), ⟨by decide, by decide, by decide +kernel⟩, by decide⟩
theorem mt_306 : gMt[306]? = some (yJ0_charAt_5068e, cJ0_charAt_5068e, 2, (some (FieldType.char)), none) := gMtc_7 (j := 26) rfl
theorem sl_306 : Cond.selects yJ0_charAt_5068e.cls yJ0_charAt_5068e yJ0_charAt_5068e ∈ gTw := (gTw_3 191 (by decide +kernel) (by decide +kernel))
theorem im_306 : Cond.instanceMethod yJ0_charAt_5068e ∈ gTw := (gTw_3 190 (by decide +kernel) (by decide +kernel))
theorem mo_315 : gMok (yJ7_fill_d0a16, cJ7_fill_d0a16, 5, none, none) 2 := ⟨(gTw_6 37 (by decide +kernel) (by decide +kernel)), (gTw_1 15 (by decide +kernel) (by decide +kernel)), ⟨by decide, by decide, by decide +kernel⟩, by decide⟩
theorem mt_315 : gMt[315]? = some (yJ7_fill_d0a16, cJ7_fill_d0a16, 5, none, none) := gMtc_7 (j := 35) rfl
theorem sm_315 : Cond.static yJ7_fill_d0a16 ∈ gTw := (gTw_6 36 (by decide +kernel) (by decide +kernel))
theorem mo_316 : gMok (yJ7_fill_53178, cJ7_fill_53178, 4, none, none) 2 := ⟨(gTw_3 153 (by decide +kernel) (by decide +kernel)), (gTw_1 15 (by decide +kernel) (by decide +kernel)), ⟨by decide, by decide, by decide +kernel⟩, by decide⟩
theorem mt_316 : gMt[316]? = some (yJ7_fill_53178, cJ7_fill_53178, 4, none, none) := gMtc_7 (j := 36) rfl
theorem sm_316 : Cond.static yJ7_fill_53178 ∈ gTw := (gTw_3 152 (by decide +kernel) (by decide +kernel))
theorem vk_RX11_105 : gVk RX11 105 157 1 := ⟨_, _, _, mt_157, mo_157, rfl, rfl, rfl, im_157, sl_157, (gTw_3 128 (by decide +kernel) (by decide +kernel))⟩
theorem vk_RX11_109 : gVk RX11 109 144 1 := ⟨_, _, _, mt_144, mo_144, rfl, rfl, rfl, im_144, sl_144, (gTw_3 136 (by decide +kernel) (by decide +kernel))⟩
theorem vk_RX11_113 : gVk RX11 113 56 2 := ⟨_, _, _, mt_56, mo_56, rfl, rfl, rfl, im_56, sl_56, (gTw_3 140 (by decide +kernel) (by decide +kernel))⟩
theorem vk_RX11_117 : gVk RX11 117 83 1 := ⟨_, _, _, mt_83, mo_83, rfl, rfl, rfl, im_83, sl_83, (gTw_4 96 (by decide +kernel) (by decide +kernel))⟩
theorem vk_RX11_121 : gVk RX11 121 40 0 := ⟨_, _, _, mt_40, mo_40, rfl, rfl, rfl, im_40, sl_40, (gTw_4 100 (by decide +kernel) (by decide +kernel))⟩
theorem vk_RX11_124 : gVk RX11 124 46 1 := ⟨_, _, _, mt_46, mo_46, rfl, rfl, rfl, im_46, sl_46, (gTw_4 104 (by decide +kernel) (by decide +kernel))⟩
theorem vk_RX11_127 : gVk RX11 127 158 0 := ⟨_, _, _, mt_158, mo_158, rfl, rfl, rfl, im_158, sl_158, (gTw_4 125 (by decide +kernel) (by decide +kernel))⟩
theorem vk_RX11_133 : gVk RX11 133 143 1 := ⟨_, _, _, mt_143, mo_143, rfl, rfl, rfl, im_143, sl_143, (gTw_4 129 (by decide +kernel) (by decide +kernel))⟩
theorem vk_RX11_142 : gVk RX11 142 150 1 := ⟨_, _, _, mt_150, mo_150, rfl, rfl, rfl, im_150, sl_150, (gTw_4 145 (by decide +kernel) (by decide +kernel))⟩
theorem vk_RX11_183 : gVk RX11 183 153 1 := ⟨_, _, _, mt_153, mo_153, rfl, rfl, rfl, im_153, sl_153, (gTw_4 161 (by decide +kernel) (by decide +kernel))⟩
theorem vk_RX11_189 : gVk RX11 189 151 0 := ⟨_, _, _, mt_151, mo_151, rfl, rfl, rfl, im_151, sl_151, (gTw_4 165 (by decide +kernel) (by decide +kernel))⟩
theorem vk_RX11_193 : gVk RX11 193 37 0 := ⟨_, _, _, mt_37, mo_37, rfl, rfl, rfl, im_37, sl_37, (gTw_4 185 (by decide +kernel) (by decide +kernel))⟩
theorem vk_RX11_197 : gVk RX11 197 159 0 := ⟨_, _, _, mt_159, mo_159, rfl, rfl, rfl, im_159, sl_159, (gTw_4 190 (by decide +kernel) (by decide +kernel))⟩
theorem vk_RX11_223 : gVk RX11 223 155 2 := ⟨_, _, _, mt_155, mo_155, rfl, rfl, rfl, im_155, sl_155, (gTw_5 29 (by decide +kernel) (by decide +kernel))⟩
theorem vk_RX11_227 : gVk RX11 227 18 2 := ⟨_, _, _, mt_18, mo_18, rfl, rfl, rfl, im_18, sl_18, (gTw_5 37 (by decide +kernel) (by decide +kernel))⟩
theorem vk_RX11_231 : gVk RX11 231 19 2 := ⟨_, _, _, mt_19, mo_19, rfl, rfl, rfl, im_19, sl_19, (gTw_5 45 (by decide +kernel) (by decide +kernel))⟩
theorem vk_RX11_234 : gVk RX11 234 154 2 := ⟨_, _, _, mt_154, mo_154, rfl, rfl, rfl, im_154, sl_154, (gTw_5 58 (by decide +kernel) (by decide +kernel))⟩
theorem vk_RX11_237 : gVk RX11 237 20 2 := ⟨_, _, _, mt_20, mo_20, rfl, rfl, rfl, im_20, sl_20, (gTw_5 66 (by decide +kernel) (by decide +kernel))⟩
theorem vk_RX11_246 : gVk RX11 246 21 2 := ⟨_, _, _, mt_21, mo_21, rfl, rfl, rfl, im_21, sl_21, (gTw_5 82 (by decide +kernel) (by decide +kernel))⟩
theorem vk_RX11_255 : gVk RX11 255 152 1 := ⟨_, _, _, mt_152, mo_152, rfl, rfl, rfl, im_152, sl_152, (gTw_5 62 (by decide +kernel) (by decide +kernel))⟩
theorem vk_RX11_273 : gVk RX11 273 147 0 := ⟨_, _, _, mt_147, mo_147, rfl, rfl, rfl, im_147, sl_147, (gTw_4 169 (by decide +kernel) (by decide +kernel))⟩
theorem vk_RX11_276 : gVk RX11 276 160 1 := ⟨_, _, _, mt_160, mo_160, rfl, rfl, rfl, im_160, sl_160, (gTw_5 122 (by decide +kernel) (by decide +kernel))⟩
theorem vk_RX11_279 : gVk RX11 279 161 1 := ⟨_, _, _, mt_161, mo_161, rfl, rfl, rfl, im_161, sl_161, (gTw_5 142 (by decide +kernel) (by decide +kernel))⟩
theorem vk_RX11_288 : gVk RX11 288 162 1 := ⟨_, _, _, mt_162, mo_162, rfl, rfl, rfl, im_162, sl_162, (gTw_5 162 (by decide +kernel) (by decide +kernel))⟩
theorem vk_RX11_295 : gVk RX11 295 22 2 := ⟨_, _, _, mt_22, mo_22, rfl, rfl, rfl, im_22, sl_22, (gTw_5 166 (by decide +kernel) (by decide +kernel))⟩
theorem vk_RX11_299 : gVk RX11 299 30 2 := ⟨_, _, _, mt_30, mo_30, rfl, rfl, rfl, im_30, sl_30, (gTw_5 179 (by decide +kernel) (by decide +kernel))⟩
theorem vk_RX11_305 : gVk RX11 305 31 2 := ⟨_, _, _, mt_31, mo_31, rfl, rfl, rfl, im_31, sl_31, (gTw_5 214 (by decide +kernel) (by decide +kernel))⟩
theorem vk_RX11_311 : gVk RX11 311 163 2 := ⟨_, _, _, mt_163, mo_163, rfl, rfl, rfl, im_163, sl_163, (gTw_5 222 (by decide +kernel) (by decide +kernel))⟩
theorem vk_RX11_318 : gVk RX11 318 49 3 := ⟨_, _, _, mt_49, mo_49, rfl, rfl, rfl, im_49, sl_49, (gTw_5 234 (by decide +kernel) (by decide +kernel))⟩
theorem vk_RX11_322 : gVk RX11 322 50 1 := ⟨_, _, _, mt_50, mo_50, rfl, rfl, rfl, im_50, sl_50, (gTw_6 1 (by decide +kernel) (by decide +kernel))⟩
theorem vk_RX11_324 : gVk RX11 324 51 1 := ⟨_, _, _, mt_51, mo_51, rfl, rfl, rfl, im_51, sl_51, (gTw_6 10 (by decide +kernel) (by decide +kernel))⟩
theorem vk_RX11_327 : gVk RX11 327 52 0 := ⟨_, _, _, mt_52, mo_52, rfl, rfl, rfl, im_52, sl_52, (gTw_6 23 (by decide +kernel) (by decide +kernel))⟩
theorem vk_RX11_330 : gVk RX11 330 149 1 := ⟨_, _, _, mt_149, mo_149, rfl, rfl, rfl, im_149, sl_149, (gTw_5 33 (by decide +kernel) (by decide +kernel))⟩
theorem vk_RX11_333 : gVk RX11 333 26 3 := ⟨_, _, _, mt_26, mo_26, rfl, rfl, rfl, im_26, sl_26, (gTw_6 31 (by decide +kernel) (by decide +kernel))⟩
theorem vk_RX11_344 : gVk RX11 344 145 1 := ⟨_, _, _, mt_145, mo_145, rfl, rfl, rfl, im_145, sl_145, (gTw_6 51 (by decide +kernel) (by decide +kernel))⟩
theorem vk_RX11_347 : gVk RX11 347 148 1 := ⟨_, _, _, mt_148, mo_148, rfl, rfl, rfl, im_148, sl_148, (gTw_4 173 (by decide +kernel) (by decide +kernel))⟩
theorem vk_RX11_353 : gVk RX11 353 41 1 := ⟨_, _, _, mt_41, mo_41, rfl, rfl, rfl, im_41, sl_41, (gTw_6 55 (by decide +kernel) (by decide +kernel))⟩
theorem vk_RX11_357 : gVk RX11 357 85 3 := ⟨_, _, _, mt_85, mo_85, rfl, rfl, rfl, im_85, sl_85, (gTw_6 61 (by decide +kernel) (by decide +kernel))⟩
theorem vk_RX11_361 : gVk RX11 361 146 0 := ⟨_, _, _, mt_146, mo_146, rfl, rfl, rfl, im_146, sl_146, (gTw_6 65 (by decide +kernel) (by decide +kernel))⟩
theorem vk_RX11_367 : gVk RX11 367 86 0 := ⟨_, _, _, mt_86, mo_86, rfl, rfl, rfl, im_86, sl_86, (gTw_6 73 (by decide +kernel) (by decide +kernel))⟩
theorem vk_RX11_377 : gVk RX11 377 42 1 := ⟨_, _, _, mt_42, mo_42, rfl, rfl, rfl, im_42, sl_42, (gTw_6 99 (by decide +kernel) (by decide +kernel))⟩
theorem vk_RX11_383 : gVk RX11 383 43 1 := ⟨_, _, _, mt_43, mo_43, rfl, rfl, rfl, im_43, sl_43, (gTw_6 107 (by decide +kernel) (by decide +kernel))⟩
theorem vk_RX11_387 : gVk RX11 387 44 2 := ⟨_, _, _, mt_44, mo_44, rfl, rfl, rfl, im_44, sl_44, (gTw_6 115 (by decide +kernel) (by decide +kernel))⟩
theorem vk_RX11_401 : gVk RX11 401 156 1 := ⟨_, _, _, mt_156, mo_156, rfl, rfl, rfl, im_156, sl_156, (gTw_4 177 (by decide +kernel) (by decide +kernel))⟩
theorem vk_RX11_408 : gVk RX11 408 17 2 := ⟨_, _, _, mt_17, mo_17, rfl, rfl, rfl, im_17, sl_17, (gTw_4 194 (by decide +kernel) (by decide +kernel))⟩
theorem vk_RX11_411 : gVk RX11 411 84 1 := ⟨_, _, _, mt_84, mo_84, rfl, rfl, rfl, im_84, sl_84, (gTw_5 126 (by decide +kernel) (by decide +kernel))⟩
theorem vk_RX0_77 : gVk RX0 77 9 2 := ⟨_, _, _, mt_9, mo_9, rfl, rfl, rfl, im_9, sl_9, (gTw_4 208 (by decide +kernel) (by decide +kernel))⟩
theorem vk_RX0_84 : gVk RX0 84 10 2 := ⟨_, _, _, mt_10, mo_10, rfl, rfl, rfl, im_10, sl_10, (gTw_4 224 (by decide +kernel) (by decide +kernel))⟩
theorem vk_RX0_99 : gVk RX0 99 5 2 := ⟨_, _, _, mt_5, mo_5, rfl, rfl, rfl, im_5, sl_5, (gTw_4 232 (by decide +kernel) (by decide +kernel))⟩
theorem vk_RX0_108 : gVk RX0 108 15 1 := ⟨_, _, _, mt_15, mo_15, rfl, rfl, rfl, im_15, sl_15, (gTw_5 0 (by decide +kernel) (by decide +kernel))⟩
theorem vk_RX0_124 : gVk RX0 124 14 1 := ⟨_, _, _, mt_14, mo_14, rfl, rfl, rfl, im_14, sl_14, (gTw_4 220 (by decide +kernel) (by decide +kernel))⟩
theorem vk_RX0_135 : gVk RX0 135 13 1 := ⟨_, _, _, mt_13, mo_13, rfl, rfl, rfl, im_13, sl_13, (gTw_4 228 (by decide +kernel) (by decide +kernel))⟩
theorem vk_RX0_144 : gVk RX0 144 11 2 := ⟨_, _, _, mt_11, mo_11, rfl, rfl, rfl, im_11, sl_11, (gTw_4 212 (by decide +kernel) (by decide +kernel))⟩
theorem vk_RX0_150 : gVk RX0 150 12 1 := ⟨_, _, _, mt_12, mo_12, rfl, rfl, rfl, im_12, sl_12, (gTw_4 216 (by decide +kernel) (by decide +kernel))⟩
theorem vk_RX0_165 : gVk RX0 165 6 1 := ⟨_, _, _, mt_6, mo_6, rfl, rfl, rfl, im_6, sl_6, (gTw_5 4 (by decide +kernel) (by decide +kernel))⟩
theorem vk_RX1_59 : gVk RX1 59 1 2 := ⟨_, _, _, mt_1, mo_1, rfl, rfl, rfl, im_1, sl_1, (gTw_4 199 (by decide +kernel) (by decide +kernel))⟩
theorem vk_RX1_70 : gVk RX1 70 2 1 := ⟨_, _, _, mt_2, mo_2, rfl, rfl, rfl, im_2, sl_2, (gTw_4 204 (by decide +kernel) (by decide +kernel))⟩
theorem vk_RX1_74 : gVk RX1 74 3 1 := ⟨_, _, _, mt_3, mo_3, rfl, rfl, rfl, im_3, sl_3, (gTw_4 236 (by decide +kernel) (by decide +kernel))⟩
theorem vk_RX1_77 : gVk RX1 77 23 2 := ⟨_, _, _, mt_23, mo_23, rfl, rfl, rfl, im_23, sl_23, (gTw_5 8 (by decide +kernel) (by decide +kernel))⟩
theorem vk_RX1_81 : gVk RX1 81 24 2 := ⟨_, _, _, mt_24, mo_24, rfl, rfl, rfl, im_24, sl_24, (gTw_5 13 (by decide +kernel) (by decide +kernel))⟩
theorem vk_RX1_84 : gVk RX1 84 4 1 := ⟨_, _, _, mt_4, mo_4, rfl, rfl, rfl, im_4, sl_4, (gTw_5 17 (by decide +kernel) (by decide +kernel))⟩
theorem vk_RX1_87 : gVk RX1 87 18 2 := ⟨_, _, _, mt_18, mo_18, rfl, rfl, rfl, im_18, sl_18, (gTw_5 49 (by decide +kernel) (by decide +kernel))⟩
theorem vk_RX1_100 : gVk RX1 100 19 2 := ⟨_, _, _, mt_19, mo_19, rfl, rfl, rfl, im_19, sl_19, (gTw_5 170 (by decide +kernel) (by decide +kernel))⟩
theorem vk_RX2_39 : gVk RX2 39 27 2 := ⟨_, _, _, mt_27, mo_27, rfl, rfl, rfl, im_27, sl_27, (gTw_6 39 (by decide +kernel) (by decide +kernel))⟩
theorem vk_RX3_27 : gVk RX3 27 1 2 := ⟨_, _, _, mt_1, mo_1, rfl, rfl, rfl, im_1, sl_1, (gTw_5 183 (by decide +kernel) (by decide +kernel))⟩
theorem vk_RX3_33 : gVk RX3 33 38 0 := ⟨_, _, _, mt_38, mo_38, rfl, rfl, rfl, im_38, sl_38, (gTw_5 184 (by decide +kernel) (by decide +kernel))⟩
theorem vk_RX3_39 : gVk RX3 39 2 1 := ⟨_, _, _, mt_2, mo_2, rfl, rfl, rfl, im_2, sl_2, (gTw_5 188 (by decide +kernel) (by decide +kernel))⟩
theorem vk_RX3_43 : gVk RX3 43 7 0 := ⟨_, _, _, mt_7, mo_7, rfl, rfl, rfl, im_7, sl_7, (gTw_5 189 (by decide +kernel) (by decide +kernel))⟩
theorem vk_RX3_49 : gVk RX3 49 5 2 := ⟨_, _, _, mt_5, mo_5, rfl, rfl, rfl, im_5, sl_5, (gTw_5 194 (by decide +kernel) (by decide +kernel))⟩
theorem vk_RX3_53 : gVk RX3 53 32 3 := ⟨_, _, _, mt_32, mo_32, rfl, rfl, rfl, im_32, sl_32, (gTw_5 195 (by decide +kernel) (by decide +kernel))⟩
theorem vk_RX3_57 : gVk RX3 57 8 0 := ⟨_, _, _, mt_8, mo_8, rfl, rfl, rfl, im_8, sl_8, (gTw_5 206 (by decide +kernel) (by decide +kernel))⟩
theorem vk_RX3_60 : gVk RX3 60 3 1 := ⟨_, _, _, mt_3, mo_3, rfl, rfl, rfl, im_3, sl_3, (gTw_5 199 (by decide +kernel) (by decide +kernel))⟩
theorem vk_RX3_63 : gVk RX3 63 33 2 := ⟨_, _, _, mt_33, mo_33, rfl, rfl, rfl, im_33, sl_33, (gTw_5 200 (by decide +kernel) (by decide +kernel))⟩
theorem vk_RX3_67 : gVk RX3 67 4 1 := ⟨_, _, _, mt_4, mo_4, rfl, rfl, rfl, im_4, sl_4, (gTw_5 205 (by decide +kernel) (by decide +kernel))⟩
theorem vk_RX3_76 : gVk RX3 76 6 1 := ⟨_, _, _, mt_6, mo_6, rfl, rfl, rfl, im_6, sl_6, (gTw_5 204 (by decide +kernel) (by decide +kernel))⟩
theorem vk_RX5_31 : gVk RX5 31 84 1 := ⟨_, _, _, mt_84, mo_84, rfl, rfl, rfl, im_84, sl_84, (gTw_6 59 (by decide +kernel) (by decide +kernel))⟩
theorem vk_RX6_33 : gVk RX6 33 37 0 := ⟨_, _, _, mt_37, mo_37, rfl, rfl, rfl, im_37, sl_37, (gTw_4 108 (by decide +kernel) (by decide +kernel))⟩
theorem vk_RX7_35 : gVk RX7 35 20 2 := ⟨_, _, _, mt_20, mo_20, rfl, rfl, rfl, im_20, sl_20, (gTw_5 238 (by decide +kernel) (by decide +kernel))⟩
theorem vk_RX7_48 : gVk RX7 48 19 2 := ⟨_, _, _, mt_19, mo_19, rfl, rfl, rfl, im_19, sl_19, (gTw_5 239 (by decide +kernel) (by decide +kernel))⟩
theorem vk_RX7_51 : gVk RX7 51 54 1 := ⟨_, _, _, mt_54, mo_54, rfl, rfl, rfl, im_54, sl_54, (gTw_6 0 (by decide +kernel) (by decide +kernel))⟩
theorem vk_RX7_63 : gVk RX7 63 50 1 := ⟨_, _, _, mt_50, mo_50, rfl, rfl, rfl, im_50, sl_50, (gTw_6 14 (by decide +kernel) (by decide +kernel))⟩
theorem vk_RX9_53 : gVk RX9 53 35 0 := ⟨_, _, _, mt_35, mo_35, rfl, rfl, rfl, im_35, sl_35, (gTw_3 147 (by decide +kernel) (by decide +kernel))⟩
theorem vk_RX9_58 : gVk RX9 58 58 0 := ⟨_, _, _, mt_58, mo_58, rfl, rfl, rfl, im_58, sl_58, (gTw_3 154 (by decide +kernel) (by decide +kernel))⟩
theorem vk_RX9_61 : gVk RX9 61 64 0 := ⟨_, _, _, mt_64, mo_64, rfl, rfl, rfl, im_64, sl_64, (gTw_3 166 (by decide +kernel) (by decide +kernel))⟩
theorem vk_RX9_68 : gVk RX9 68 57 1 := ⟨_, _, _, mt_57, mo_57, rfl, rfl, rfl, im_57, sl_57, (gTw_3 232 (by decide +kernel) (by decide +kernel))⟩
theorem vk_RX9_72 : gVk RX9 72 59 2 := ⟨_, _, _, mt_59, mo_59, rfl, rfl, rfl, im_59, sl_59, (gTw_3 158 (by decide +kernel) (by decide +kernel))⟩
theorem vk_RX9_76 : gVk RX9 76 60 0 := ⟨_, _, _, mt_60, mo_60, rfl, rfl, rfl, im_60, sl_60, (gTw_3 162 (by decide +kernel) (by decide +kernel))⟩
theorem tk_RX9_80 : gTk RX9 80 305 0 := ⟨_, mt_305, mo_305, rfl, im_305, sl_305, (gTw_3 179 (by decide +kernel) (by decide +kernel))⟩
theorem tk_RX9_85 : gTk RX9 85 306 1 := ⟨_, mt_306, mo_306, rfl, im_306, sl_306, (gTw_3 189 (by decide +kernel) (by decide +kernel))⟩
theorem vk_RX9_91 : gVk RX9 91 61 1 := ⟨_, _, _, mt_61, mo_61, rfl, rfl, rfl, im_61, sl_61, (gTw_3 175 (by decide +kernel) (by decide +kernel))⟩
theorem vk_RX9_105 : gVk RX9 105 62 0 := ⟨_, _, _, mt_62, mo_62, rfl, rfl, rfl, im_62, sl_62, (gTw_3 170 (by decide +kernel) (by decide +kernel))⟩
theorem vk_RX9_111 : gVk RX9 111 65 1 := ⟨_, _, _, mt_65, mo_65, rfl, rfl, rfl, im_65, sl_65, (gTw_3 236 (by decide +kernel) (by decide +kernel))⟩
theorem vk_RX9_114 : gVk RX9 114 71 0 := ⟨_, _, _, mt_71, mo_71, rfl, rfl, rfl, im_71, sl_71, (gTw_4 0 (by decide +kernel) (by decide +kernel))⟩
theorem vk_RX9_120 : gVk RX9 120 72 1 := ⟨_, _, _, mt_72, mo_72, rfl, rfl, rfl, im_72, sl_72, (gTw_4 16 (by decide +kernel) (by decide +kernel))⟩
theorem vk_RX9_124 : gVk RX9 124 78 0 := ⟨_, _, _, mt_78, mo_78, rfl, rfl, rfl, im_78, sl_78, (gTw_4 71 (by decide +kernel) (by decide +kernel))⟩
theorem vk_RX9_129 : gVk RX9 129 79 1 := ⟨_, _, _, mt_79, mo_79, rfl, rfl, rfl, im_79, sl_79, (gTw_4 84 (by decide +kernel) (by decide +kernel))⟩
theorem vk_RX9_135 : gVk RX9 135 80 1 := ⟨_, _, _, mt_80, mo_80, rfl, rfl, rfl, im_80, sl_80, (gTw_4 88 (by decide +kernel) (by decide +kernel))⟩
theorem vk_RX9_141 : gVk RX9 141 81 1 := ⟨_, _, _, mt_81, mo_81, rfl, rfl, rfl, im_81, sl_81, (gTw_4 92 (by decide +kernel) (by decide +kernel))⟩
theorem vk_RX9_144 : gVk RX9 144 69 1 := ⟨_, _, _, mt_69, mo_69, rfl, rfl, rfl, im_69, sl_69, (gTw_4 28 (by decide +kernel) (by decide +kernel))⟩
theorem vk_RX9_155 : gVk RX9 155 68 0 := ⟨_, _, _, mt_68, mo_68, rfl, rfl, rfl, im_68, sl_68, (gTw_4 24 (by decide +kernel) (by decide +kernel))⟩
theorem vk_RX9_159 : gVk RX9 159 66 1 := ⟨_, _, _, mt_66, mo_66, rfl, rfl, rfl, im_66, sl_66, (gTw_4 5 (by decide +kernel) (by decide +kernel))⟩
theorem vk_RX9_162 : gVk RX9 162 67 2 := ⟨_, _, _, mt_67, mo_67, rfl, rfl, rfl, im_67, sl_67, (gTw_4 9 (by decide +kernel) (by decide +kernel))⟩
theorem vk_RX9_178 : gVk RX9 178 73 1 := ⟨_, _, _, mt_73, mo_73, rfl, rfl, rfl, im_73, sl_73, (gTw_4 20 (by decide +kernel) (by decide +kernel))⟩
theorem vk_RX9_181 : gVk RX9 181 74 1 := ⟨_, _, _, mt_74, mo_74, rfl, rfl, rfl, im_74, sl_74, (gTw_4 32 (by decide +kernel) (by decide +kernel))⟩
theorem vk_RX9_186 : gVk RX9 186 75 1 := ⟨_, _, _, mt_75, mo_75, rfl, rfl, rfl, im_75, sl_75, (gTw_4 45 (by decide +kernel) (by decide +kernel))⟩
theorem vk_RX9_191 : gVk RX9 191 77 1 := ⟨_, _, _, mt_77, mo_77, rfl, rfl, rfl, im_77, sl_77, (gTw_4 54 (by decide +kernel) (by decide +kernel))⟩
theorem vk_RX9_205 : gVk RX9 205 76 1 := ⟨_, _, _, mt_76, mo_76, rfl, rfl, rfl, im_76, sl_76, (gTw_4 65 (by decide +kernel) (by decide +kernel))⟩
theorem vk_RX9_219 : gVk RX9 219 63 4 := ⟨_, _, _, mt_63, mo_63, rfl, rfl, rfl, im_63, sl_63, (gTw_4 40 (by decide +kernel) (by decide +kernel))⟩
theorem vk_RX9_246 : gVk RX9 246 54 1 := ⟨_, _, _, mt_54, mo_54, rfl, rfl, rfl, im_54, sl_54, (gTw_4 58 (by decide +kernel) (by decide +kernel))⟩
theorem vk_RX9_252 : gVk RX9 252 70 0 := ⟨_, _, _, mt_70, mo_70, rfl, rfl, rfl, im_70, sl_70, (gTw_4 75 (by decide +kernel) (by decide +kernel))⟩
theorem vk_RX9_260 : gVk RX9 260 36 3 := ⟨_, _, _, mt_36, mo_36, rfl, rfl, rfl, im_36, sl_36, (gTw_4 80 (by decide +kernel) (by decide +kernel))⟩
theorem vk_RX13_94 : gVk RX13 94 172 1 := ⟨_, _, _, mt_172, mo_172, rfl, rfl, rfl, im_172, sl_172, (gTw_7 131 (by decide +kernel) (by decide +kernel))⟩
theorem vk_RX13_98 : gVk RX13 98 174 1 := ⟨_, _, _, mt_174, mo_174, rfl, rfl, rfl, im_174, sl_174, (gTw_8 132 (by decide +kernel) (by decide +kernel))⟩
theorem tk_RX13_104 : gTk RX13 104 305 0 := ⟨_, mt_305, mo_305, rfl, im_305, sl_305, (gTw_8 35 (by decide +kernel) (by decide +kernel))⟩
theorem tk_RX13_112 : gTk RX13 112 306 1 := ⟨_, mt_306, mo_306, rfl, im_306, sl_306, (gTw_8 36 (by decide +kernel) (by decide +kernel))⟩
theorem vk_RX13_122 : gVk RX13 122 179 1 := ⟨_, _, _, mt_179, mo_179, rfl, rfl, rfl, im_179, sl_179, (gTw_8 8 (by decide +kernel) (by decide +kernel))⟩
theorem vk_RX13_158 : gVk RX13 158 183 0 := ⟨_, _, _, mt_183, mo_183, rfl, rfl, rfl, im_183, sl_183, (gTw_8 4 (by decide +kernel) (by decide +kernel))⟩
theorem vk_RX13_161 : gVk RX13 161 185 1 := ⟨_, _, _, mt_185, mo_185, rfl, rfl, rfl, im_185, sl_185, (gTw_8 28 (by decide +kernel) (by decide +kernel))⟩
theorem vk_RX13_165 : gVk RX13 165 184 1 := ⟨_, _, _, mt_184, mo_184, rfl, rfl, rfl, im_184, sl_184, (gTw_8 41 (by decide +kernel) (by decide +kernel))⟩
theorem vk_RX13_173 : gVk RX13 173 189 2 := ⟨_, _, _, mt_189, mo_189, rfl, rfl, rfl, im_189, sl_189, (gTw_8 58 (by decide +kernel) (by decide +kernel))⟩
theorem vk_RX13_177 : gVk RX13 177 187 1 := ⟨_, _, _, mt_187, mo_187, rfl, rfl, rfl, im_187, sl_187, (gTw_8 50 (by decide +kernel) (by decide +kernel))⟩
theorem vk_RX13_181 : gVk RX13 181 190 2 := ⟨_, _, _, mt_190, mo_190, rfl, rfl, rfl, im_190, sl_190, (gTw_8 54 (by decide +kernel) (by decide +kernel))⟩
theorem vk_RX13_205 : gVk RX13 205 192 0 := ⟨_, _, _, mt_192, mo_192, rfl, rfl, rfl, im_192, sl_192, (gTw_8 77 (by decide +kernel) (by decide +kernel))⟩
theorem vk_RX13_209 : gVk RX13 209 165 1 := ⟨_, _, _, mt_165, mo_165, rfl, rfl, rfl, im_165, sl_165, (gTw_8 85 (by decide +kernel) (by decide +kernel))⟩
theorem vk_RX13_213 : gVk RX13 213 196 0 := ⟨_, _, _, mt_196, mo_196, rfl, rfl, rfl, im_196, sl_196, (gTw_8 23 (by decide +kernel) (by decide +kernel))⟩
theorem vk_RX13_216 : gVk RX13 216 186 0 := ⟨_, _, _, mt_186, mo_186, rfl, rfl, rfl, im_186, sl_186, (gTw_8 128 (by decide +kernel) (by decide +kernel))⟩
theorem vk_RX13_222 : gVk RX13 222 197 0 := ⟨_, _, _, mt_197, mo_197, rfl, rfl, rfl, im_197, sl_197, (gTw_8 37 (by decide +kernel) (by decide +kernel))⟩
theorem vk_RX13_225 : gVk RX13 225 198 0 := ⟨_, _, _, mt_198, mo_198, rfl, rfl, rfl, im_198, sl_198, (gTw_8 69 (by decide +kernel) (by decide +kernel))⟩
theorem vk_RX13_228 : gVk RX13 228 199 0 := ⟨_, _, _, mt_199, mo_199, rfl, rfl, rfl, im_199, sl_199, (gTw_8 103 (by decide +kernel) (by decide +kernel))⟩
theorem vk_RX13_231 : gVk RX13 231 200 0 := ⟨_, _, _, mt_200, mo_200, rfl, rfl, rfl, im_200, sl_200, (gTw_8 112 (by decide +kernel) (by decide +kernel))⟩
theorem vk_RX13_234 : gVk RX13 234 201 0 := ⟨_, _, _, mt_201, mo_201, rfl, rfl, rfl, im_201, sl_201, (gTw_8 120 (by decide +kernel) (by decide +kernel))⟩
theorem vk_RX13_237 : gVk RX13 237 202 0 := ⟨_, _, _, mt_202, mo_202, rfl, rfl, rfl, im_202, sl_202, (gTw_8 124 (by decide +kernel) (by decide +kernel))⟩
theorem vk_RX13_241 : gVk RX13 241 191 3 := ⟨_, _, _, mt_191, mo_191, rfl, rfl, rfl, im_191, sl_191, (gTw_8 46 (by decide +kernel) (by decide +kernel))⟩
theorem vk_RX13_257 : gVk RX13 257 193 2 := ⟨_, _, _, mt_193, mo_193, rfl, rfl, rfl, im_193, sl_193, (gTw_8 73 (by decide +kernel) (by decide +kernel))⟩
theorem vk_RX13_309 : gVk RX13 309 194 0 := ⟨_, _, _, mt_194, mo_194, rfl, rfl, rfl, im_194, sl_194, (gTw_8 107 (by decide +kernel) (by decide +kernel))⟩
theorem vk_RX13_324 : gVk RX13 324 188 0 := ⟨_, _, _, mt_188, mo_188, rfl, rfl, rfl, im_188, sl_188, (gTw_8 116 (by decide +kernel) (by decide +kernel))⟩
theorem vk_RX13_360 : gVk RX13 360 195 0 := ⟨_, _, _, mt_195, mo_195, rfl, rfl, rfl, im_195, sl_195, (gTw_8 19 (by decide +kernel) (by decide +kernel))⟩
theorem vk_RX13_380 : gVk RX13 380 210 0 := ⟨_, _, _, mt_210, mo_210, rfl, rfl, rfl, im_210, sl_210, (gTw_8 196 (by decide +kernel) (by decide +kernel))⟩
theorem vk_RX13_386 : gVk RX13 386 211 1 := ⟨_, _, _, mt_211, mo_211, rfl, rfl, rfl, im_211, sl_211, (gTw_8 200 (by decide +kernel) (by decide +kernel))⟩
theorem vk_RX13_389 : gVk RX13 389 167 2 := ⟨_, _, _, mt_167, mo_167, rfl, rfl, rfl, im_167, sl_167, (gTw_8 204 (by decide +kernel) (by decide +kernel))⟩
theorem vk_RX13_393 : gVk RX13 393 214 2 := ⟨_, _, _, mt_214, mo_214, rfl, rfl, rfl, im_214, sl_214, (gTw_8 208 (by decide +kernel) (by decide +kernel))⟩
theorem vk_RX13_395 : gVk RX13 395 216 1 := ⟨_, _, _, mt_216, mo_216, rfl, rfl, rfl, im_216, sl_216, (gTw_8 224 (by decide +kernel) (by decide +kernel))⟩
theorem vk_RX13_398 : gVk RX13 398 166 2 := ⟨_, _, _, mt_166, mo_166, rfl, rfl, rfl, im_166, sl_166, (gTw_8 232 (by decide +kernel) (by decide +kernel))⟩
theorem vk_RX13_401 : gVk RX13 401 217 2 := ⟨_, _, _, mt_217, mo_217, rfl, rfl, rfl, im_217, sl_217, (gTw_8 233 (by decide +kernel) (by decide +kernel))⟩
theorem vk_RX13_410 : gVk RX13 410 218 2 := ⟨_, _, _, mt_218, mo_218, rfl, rfl, rfl, im_218, sl_218, (gTw_8 237 (by decide +kernel) (by decide +kernel))⟩
theorem vk_RX13_413 : gVk RX13 413 168 2 := ⟨_, _, _, mt_168, mo_168, rfl, rfl, rfl, im_168, sl_168, (gTw_9 5 (by decide +kernel) (by decide +kernel))⟩
theorem vk_RX13_416 : gVk RX13 416 208 1 := ⟨_, _, _, mt_208, mo_208, rfl, rfl, rfl, im_208, sl_208, (gTw_8 216 (by decide +kernel) (by decide +kernel))⟩
theorem vk_RX13_419 : gVk RX13 419 212 1 := ⟨_, _, _, mt_212, mo_212, rfl, rfl, rfl, im_212, sl_212, (gTw_8 220 (by decide +kernel) (by decide +kernel))⟩
theorem vk_RX13_422 : gVk RX13 422 213 1 := ⟨_, _, _, mt_213, mo_213, rfl, rfl, rfl, im_213, sl_213, (gTw_8 212 (by decide +kernel) (by decide +kernel))⟩
theorem vk_RX13_425 : gVk RX13 425 215 0 := ⟨_, _, _, mt_215, mo_215, rfl, rfl, rfl, im_215, sl_215, (gTw_8 228 (by decide +kernel) (by decide +kernel))⟩
theorem vk_RX13_428 : gVk RX13 428 207 1 := ⟨_, _, _, mt_207, mo_207, rfl, rfl, rfl, im_207, sl_207, (gTw_9 1 (by decide +kernel) (by decide +kernel))⟩
theorem vk_RX13_431 : gVk RX13 431 220 1 := ⟨_, _, _, mt_220, mo_220, rfl, rfl, rfl, im_220, sl_220, (gTw_8 168 (by decide +kernel) (by decide +kernel))⟩
theorem vk_RX13_434 : gVk RX13 434 219 1 := ⟨_, _, _, mt_219, mo_219, rfl, rfl, rfl, im_219, sl_219, (gTw_8 148 (by decide +kernel) (by decide +kernel))⟩
theorem vk_RX13_437 : gVk RX13 437 222 2 := ⟨_, _, _, mt_222, mo_222, rfl, rfl, rfl, im_222, sl_222, (gTw_8 164 (by decide +kernel) (by decide +kernel))⟩
theorem vk_RX13_441 : gVk RX13 441 169 1 := ⟨_, _, _, mt_169, mo_169, rfl, rfl, rfl, im_169, sl_169, (gTw_8 172 (by decide +kernel) (by decide +kernel))⟩
theorem vk_RX13_447 : gVk RX13 447 209 0 := ⟨_, _, _, mt_209, mo_209, rfl, rfl, rfl, im_209, sl_209, (gTw_8 192 (by decide +kernel) (by decide +kernel))⟩
theorem vk_RX13_450 : gVk RX13 450 221 1 := ⟨_, _, _, mt_221, mo_221, rfl, rfl, rfl, im_221, sl_221, (gTw_9 17 (by decide +kernel) (by decide +kernel))⟩
theorem vk_RX13_453 : gVk RX13 453 230 2 := ⟨_, _, _, mt_230, mo_230, rfl, rfl, rfl, im_230, sl_230, (gTw_9 21 (by decide +kernel) (by decide +kernel))⟩
theorem vk_RX13_456 : gVk RX13 456 233 2 := ⟨_, _, _, mt_233, mo_233, rfl, rfl, rfl, im_233, sl_233, (gTw_9 29 (by decide +kernel) (by decide +kernel))⟩
theorem vk_RX13_459 : gVk RX13 459 236 1 := ⟨_, _, _, mt_236, mo_236, rfl, rfl, rfl, im_236, sl_236, (gTw_9 45 (by decide +kernel) (by decide +kernel))⟩
theorem vk_RX13_462 : gVk RX13 462 239 2 := ⟨_, _, _, mt_239, mo_239, rfl, rfl, rfl, im_239, sl_239, (gTw_9 57 (by decide +kernel) (by decide +kernel))⟩
theorem vk_RX13_465 : gVk RX13 465 242 2 := ⟨_, _, _, mt_242, mo_242, rfl, rfl, rfl, im_242, sl_242, (gTw_9 73 (by decide +kernel) (by decide +kernel))⟩
theorem vk_RX13_468 : gVk RX13 468 243 1 := ⟨_, _, _, mt_243, mo_243, rfl, rfl, rfl, im_243, sl_243, (gTw_9 69 (by decide +kernel) (by decide +kernel))⟩
theorem vk_RX13_471 : gVk RX13 471 244 0 := ⟨_, _, _, mt_244, mo_244, rfl, rfl, rfl, im_244, sl_244, (gTw_9 81 (by decide +kernel) (by decide +kernel))⟩
theorem vk_RX13_474 : gVk RX13 474 248 1 := ⟨_, _, _, mt_248, mo_248, rfl, rfl, rfl, im_248, sl_248, (gTw_9 93 (by decide +kernel) (by decide +kernel))⟩
theorem vk_RX13_477 : gVk RX13 477 250 1 := ⟨_, _, _, mt_250, mo_250, rfl, rfl, rfl, im_250, sl_250, (gTw_9 101 (by decide +kernel) (by decide +kernel))⟩
theorem vk_RX13_480 : gVk RX13 480 251 0 := ⟨_, _, _, mt_251, mo_251, rfl, rfl, rfl, im_251, sl_251, (gTw_9 109 (by decide +kernel) (by decide +kernel))⟩
theorem vk_RX13_483 : gVk RX13 483 255 1 := ⟨_, _, _, mt_255, mo_255, rfl, rfl, rfl, im_255, sl_255, (gTw_9 121 (by decide +kernel) (by decide +kernel))⟩
theorem vk_RX13_486 : gVk RX13 486 256 1 := ⟨_, _, _, mt_256, mo_256, rfl, rfl, rfl, im_256, sl_256, (gTw_9 133 (by decide +kernel) (by decide +kernel))⟩
theorem vk_RX13_489 : gVk RX13 489 261 2 := ⟨_, _, _, mt_261, mo_261, rfl, rfl, rfl, im_261, sl_261, (gTw_9 157 (by decide +kernel) (by decide +kernel))⟩
theorem vk_RX13_492 : gVk RX13 492 262 1 := ⟨_, _, _, mt_262, mo_262, rfl, rfl, rfl, im_262, sl_262, (gTw_9 153 (by decide +kernel) (by decide +kernel))⟩
theorem vk_RX13_495 : gVk RX13 495 263 1 := ⟨_, _, _, mt_263, mo_263, rfl, rfl, rfl, im_263, sl_263, (gTw_9 149 (by decide +kernel) (by decide +kernel))⟩
theorem vk_RX13_498 : gVk RX13 498 264 0 := ⟨_, _, _, mt_264, mo_264, rfl, rfl, rfl, im_264, sl_264, (gTw_9 145 (by decide +kernel) (by decide +kernel))⟩
theorem vk_RX13_501 : gVk RX13 501 267 1 := ⟨_, _, _, mt_267, mo_267, rfl, rfl, rfl, im_267, sl_267, (gTw_9 173 (by decide +kernel) (by decide +kernel))⟩
theorem vk_RX13_504 : gVk RX13 504 268 0 := ⟨_, _, _, mt_268, mo_268, rfl, rfl, rfl, im_268, sl_268, (gTw_9 169 (by decide +kernel) (by decide +kernel))⟩
theorem vk_RX13_516 : gVk RX13 516 272 0 := ⟨_, _, _, mt_272, mo_272, rfl, rfl, rfl, im_272, sl_272, (gTw_9 185 (by decide +kernel) (by decide +kernel))⟩
theorem vk_RX13_519 : gVk RX13 519 271 1 := ⟨_, _, _, mt_271, mo_271, rfl, rfl, rfl, im_271, sl_271, (gTw_9 189 (by decide +kernel) (by decide +kernel))⟩
theorem vk_RX13_522 : gVk RX13 522 275 1 := ⟨_, _, _, mt_275, mo_275, rfl, rfl, rfl, im_275, sl_275, (gTw_9 201 (by decide +kernel) (by decide +kernel))⟩
theorem vk_RX13_528 : gVk RX13 528 279 1 := ⟨_, _, _, mt_279, mo_279, rfl, rfl, rfl, im_279, sl_279, (gTw_9 217 (by decide +kernel) (by decide +kernel))⟩
theorem vk_RX13_534 : gVk RX13 534 278 3 := ⟨_, _, _, mt_278, mo_278, rfl, rfl, rfl, im_278, sl_278, (gTw_9 224 (by decide +kernel) (by decide +kernel))⟩
theorem vk_RX13_537 : gVk RX13 537 280 2 := ⟨_, _, _, mt_280, mo_280, rfl, rfl, rfl, im_280, sl_280, (gTw_9 213 (by decide +kernel) (by decide +kernel))⟩
theorem vk_RX13_542 : gVk RX13 542 173 1 := ⟨_, _, _, mt_173, mo_173, rfl, rfl, rfl, im_173, sl_173, (gTw_10 9 (by decide +kernel) (by decide +kernel))⟩
theorem vk_RX13_545 : gVk RX13 545 286 0 := ⟨_, _, _, mt_286, mo_286, rfl, rfl, rfl, im_286, sl_286, (gTw_10 13 (by decide +kernel) (by decide +kernel))⟩
theorem vk_RX13_548 : gVk RX13 548 287 3 := ⟨_, _, _, mt_287, mo_287, rfl, rfl, rfl, im_287, sl_287, (gTw_10 17 (by decide +kernel) (by decide +kernel))⟩
theorem vk_RX13_552 : gVk RX13 552 175 0 := ⟨_, _, _, mt_175, mo_175, rfl, rfl, rfl, im_175, sl_175, (gTw_10 21 (by decide +kernel) (by decide +kernel))⟩
theorem vk_RX13_561 : gVk RX13 561 289 0 := ⟨_, _, _, mt_289, mo_289, rfl, rfl, rfl, im_289, sl_289, (gTw_10 29 (by decide +kernel) (by decide +kernel))⟩
theorem vk_RX13_564 : gVk RX13 564 291 2 := ⟨_, _, _, mt_291, mo_291, rfl, rfl, rfl, im_291, sl_291, (gTw_10 40 (by decide +kernel) (by decide +kernel))⟩
theorem vk_RX12_79 : gVk RX12 79 166 2 := ⟨_, _, _, mt_166, mo_166, rfl, rfl, rfl, im_166, sl_166, (gTw_8 176 (by decide +kernel) (by decide +kernel))⟩
theorem ob_RX11_3 : Cond.methodLink RX11 3 Lib.objectInit ∈ gTw := (gTw_1 32 (by decide +kernel) (by decide +kernel))
theorem sk_RX11_414 : gSk RX11 414 316 2 := ⟨_, mt_316, mo_316, sm_316, (Or.inl (gTw_5 133 (by decide +kernel) (by decide +kernel)))⟩
theorem ob_RX0_3 : Cond.methodLink RX0 3 Lib.objectInit ∈ gTw := (gTw_2 115 (by decide +kernel) (by decide +kernel))
theorem sk_RX0_63 : gSk RX0 63 316 2 := ⟨_, mt_316, mo_316, sm_316, (Or.inl (gTw_4 203 (by decide +kernel) (by decide +kernel)))⟩
theorem ac_RX0_138 : Cond.methodLink RX0 138 arraycopyName ∈ gTw := (gTw_5 193 (by decide +kernel) (by decide +kernel))
theorem ob_RX1_3 : Cond.methodLink RX1 3 Lib.objectInit ∈ gTw := (gTw_2 179 (by decide +kernel) (by decide +kernel))
theorem sk_RX1_53 : gSk RX1 53 316 2 := ⟨_, mt_316, mo_316, sm_316, (Or.inl (gTw_4 198 (by decide +kernel) (by decide +kernel)))⟩
theorem sk_RX1_109 : gSk RX1 109 303 2 := ⟨_, mt_303, mo_303, sm_303, (Or.inl (gTw_5 12 (by decide +kernel) (by decide +kernel)))⟩
theorem ob_RX2_3 : Cond.methodLink RX2 3 Lib.objectInit ∈ gTw := (gTw_3 58 (by decide +kernel) (by decide +kernel))
theorem sk_RX2_25 : gSk RX2 25 315 2 := ⟨_, mt_315, mo_315, sm_315, (Or.inl (gTw_6 35 (by decide +kernel) (by decide +kernel)))⟩
theorem sk_RX2_43 : gSk RX2 43 28 2 := ⟨_, mt_28, mo_28, sm_28, (Or.inl (gTw_6 44 (by decide +kernel) (by decide +kernel)))⟩
theorem ac_RX2_50 : Cond.methodLink RX2 50 arraycopyName ∈ gTw := (gTw_6 43 (by decide +kernel) (by decide +kernel))
theorem ob_RX3_3 : Cond.methodLink RX3 3 Lib.objectInit ∈ gTw := (gTw_2 234 (by decide +kernel) (by decide +kernel))
theorem ob_RX4_3 : Cond.methodLink RX4 3 Lib.objectInit ∈ gTw := (gTw_1 40 (by decide +kernel) (by decide +kernel))
theorem sk_RX4_77 : gSk RX4 77 316 2 := ⟨_, mt_316, mo_316, sm_316, (Or.inl (gTw_3 151 (by decide +kernel) (by decide +kernel)))⟩
theorem sk_RX4_92 : gSk RX4 92 302 1 := ⟨_, mt_302, mo_302, sm_302, (Or.inl (gTw_4 112 (by decide +kernel) (by decide +kernel)))⟩
theorem sk_RX4_98 : gSk RX4 98 303 2 := ⟨_, mt_303, mo_303, sm_303, (Or.inl (gTw_4 118 (by decide +kernel) (by decide +kernel)))⟩
theorem ob_RX5_3 : Cond.methodLink RX5 3 Lib.objectInit ∈ gTw := (gTw_2 86 (by decide +kernel) (by decide +kernel))
theorem sk_RX5_35 : gSk RX5 35 304 2 := ⟨_, mt_304, mo_304, sm_304, (Or.inl (gTw_6 60 (by decide +kernel) (by decide +kernel)))⟩
theorem ob_RX6_3 : Cond.methodLink RX6 3 Lib.objectInit ∈ gTw := (gTw_3 40 (by decide +kernel) (by decide +kernel))
theorem sk_RX6_37 : gSk RX6 37 303 2 := ⟨_, mt_303, mo_303, sm_303, (Or.inl (gTw_4 121 (by decide +kernel) (by decide +kernel)))⟩
theorem sk_RX6_43 : gSk RX6 43 47 5 := ⟨_, mt_47, mo_47, sm_47, (Or.inl (gTw_4 122 (by decide +kernel) (by decide +kernel)))⟩
theorem ob_RX7_3 : Cond.methodLink RX7 3 Lib.objectInit ∈ gTw := (gTw_3 15 (by decide +kernel) (by decide +kernel))
theorem sk_RX7_57 : gSk RX7 57 302 1 := ⟨_, mt_302, mo_302, sm_302, (Or.inl (gTw_6 5 (by decide +kernel) (by decide +kernel)))⟩
theorem ob_RX8_3 : Cond.methodLink RX8 3 Lib.objectInit ∈ gTw := (gTw_1 47 (by decide +kernel) (by decide +kernel))
theorem ob_RX9_3 : Cond.methodLink RX9 3 Lib.objectInit ∈ gTw := (gTw_2 1 (by decide +kernel) (by decide +kernel))
theorem sk_RX9_47 : gSk RX9 47 304 2 := ⟨_, mt_304, mo_304, sm_304, (Or.inl (gTw_3 144 (by decide +kernel) (by decide +kernel)))⟩
theorem ob_RX10_3 : Cond.methodLink RX10 3 Lib.objectInit ∈ gTw := (gTw_2 43 (by decide +kernel) (by decide +kernel))
theorem ac_RX10_54 : Cond.methodLink RX10 54 arraycopyName ∈ gTw := (gTw_5 130 (by decide +kernel) (by decide +kernel))
theorem ob_RX13_3 : Cond.methodLink RX13 3 Lib.objectInit ∈ gTw := (gTw_6 201 (by decide +kernel) (by decide +kernel))
theorem sk_RX13_131 : gSk RX13 131 180 1 := ⟨_, mt_180, mo_180, sm_180, (Or.inl (gTw_8 12 (by decide +kernel) (by decide +kernel)))⟩
theorem sk_RX13_142 : gSk RX13 142 181 1 := ⟨_, mt_181, mo_181, sm_181, (Or.inl (gTw_8 16 (by decide +kernel) (by decide +kernel)))⟩
theorem sk_RX13_154 : gSk RX13 154 182 1 := ⟨_, mt_182, mo_182, sm_182, (Or.inl (gTw_8 32 (by decide +kernel) (by decide +kernel)))⟩
theorem sk_RX13_169 : gSk RX13 169 176 3 := ⟨_, mt_176, mo_176, sm_176, (Or.inl (gTw_8 62 (by decide +kernel) (by decide +kernel)))⟩
theorem sk_RX13_444 : gSk RX13 444 178 1 := ⟨_, mt_178, mo_178, sm_178, (Or.inl (gTw_8 185 (by decide +kernel) (by decide +kernel)))⟩
theorem sk_RX13_531 : gSk RX13 531 177 2 := ⟨_, mt_177, mo_177, sm_177, (Or.inl (gTw_9 221 (by decide +kernel) (by decide +kernel)))⟩
theorem ob_RX12_3 : Cond.methodLink RX12 3 Lib.objectInit ∈ gTw := (gTw_7 140 (by decide +kernel) (by decide +kernel))
theorem sk_RX12_75 : gSk RX12 75 176 3 := ⟨_, mt_176, mo_176, sm_176, (Or.inr ⟨"BrushGlassModel", by decide +kernel⟩)⟩
theorem nk_RX11_19 : gNk1 RX11 19 34 0 := ⟨_, mt_34, mo_34, rfl, rfl, im_34, (Or.inl (gTw_1 37 (by decide +kernel) (by decide +kernel)))⟩
theorem nk_RX11_29 : gNk1 RX11 29 55 2 := ⟨_, mt_55, mo_55, rfl, rfl, im_55, (Or.inl (gTw_1 238 (by decide +kernel) (by decide +kernel)))⟩
theorem nk_RX11_38 : gNk1 RX11 38 82 0 := ⟨_, mt_82, mo_82, rfl, rfl, im_82, (Or.inr ⟨"BrushGlass", by decide +kernel⟩)⟩
theorem nk_RX11_48 : gNk1 RX11 48 39 0 := ⟨_, mt_39, mo_39, rfl, rfl, im_39, (Or.inl (gTw_2 83 (by decide +kernel) (by decide +kernel)))⟩
theorem nk_RX11_57 : gNk1 RX11 57 0 2 := ⟨_, mt_0, mo_0, rfl, rfl, im_0, (Or.inl (gTw_2 112 (by decide +kernel) (by decide +kernel)))⟩
theorem nk_RX11_60 : gNk1 RX11 60 16 1 := ⟨_, mt_16, mo_16, rfl, rfl, im_16, (Or.inl (gTw_2 176 (by decide +kernel) (by decide +kernel)))⟩
theorem nk_RX11_72 : gNk1 RX11 72 29 1 := ⟨_, mt_29, mo_29, rfl, rfl, im_29, (Or.inl (gTw_2 231 (by decide +kernel) (by decide +kernel)))⟩
theorem nk_RX11_79 : gNk1 RX11 79 48 0 := ⟨_, mt_48, mo_48, rfl, rfl, im_48, (Or.inr ⟨"BrushGlass", by decide +kernel⟩)⟩
theorem nk_RX11_86 : gNk1 RX11 86 45 0 := ⟨_, mt_45, mo_45, rfl, rfl, im_45, (Or.inr ⟨"BrushGlass", by decide +kernel⟩)⟩
theorem nk_RX11_93 : gNk1 RX11 93 25 0 := ⟨_, mt_25, mo_25, rfl, rfl, im_25, (Or.inr ⟨"BrushGlass", by decide +kernel⟩)⟩
theorem nk_RX4_76 : gNk1 RX4 76 53 0 := ⟨_, mt_53, mo_53, rfl, rfl, im_53, (Or.inr ⟨"BrushGlass", by decide +kernel⟩)⟩
theorem nk_RX5_30 : gNk1 RX5 30 82 0 := ⟨_, mt_82, mo_82, rfl, rfl, im_82, (Or.inr ⟨"BrushGlass", by decide +kernel⟩)⟩
theorem nk_RX13_359 : gNk1 RX13 359 164 0 := ⟨_, mt_164, mo_164, rfl, rfl, im_164, (Or.inr ⟨"BrushGlassModel", by decide +kernel⟩)⟩
theorem ac_n : Cond.native arraycopyName ∈ gTw := (gTw_5 132 (by decide +kernel) (by decide +kernel))
theorem ac_s : Cond.static arraycopyName ∈ gTw := (gTw_5 131 (by decide +kernel) (by decide +kernel))
theorem ac_i : Cond.initialized "java/lang/System" ∈ gTw := (gTw_1 22 (by decide +kernel) (by decide +kernel))
theorem ob_i : Cond.instanceMethod Lib.objectInit ∈ gTw := (gTw_1 33 (by decide +kernel) (by decide +kernel))
theorem ob_c : Cond.code Lib.objectInit ⟨#[0xb1]⟩ 1 none ∈ gTw := (gTw_1 34 (by decide +kernel) (by decide +kernel))
theorem cl_RX11_17 : Cond.classLink RX11 17 RX4 ∈ gTw := (gTw_1 35 (by decide +kernel) (by decide +kernel))
theorem cl_RX11_27 : Cond.classLink RX11 27 RX9 ∈ gTw := (gTw_1 236 (by decide +kernel) (by decide +kernel))
theorem cl_RX11_36 : Cond.classLink RX11 36 RX10 ∈ gTw := (gTw_2 38 (by decide +kernel) (by decide +kernel))
theorem cl_RX11_46 : Cond.classLink RX11 46 RX5 ∈ gTw := (gTw_2 81 (by decide +kernel) (by decide +kernel))
theorem cl_RX11_53 : Cond.classLink RX11 53 RX1 ∈ gTw := (gTw_2 108 (by decide +kernel) (by decide +kernel))
theorem cl_RX11_55 : Cond.classLink RX11 55 RX0 ∈ gTw := (gTw_2 110 (by decide +kernel) (by decide +kernel))
theorem cl_RX11_70 : Cond.classLink RX11 70 RX3 ∈ gTw := (gTw_2 229 (by decide +kernel) (by decide +kernel))
theorem cl_RX11_77 : Cond.classLink RX11 77 RX7 ∈ gTw := (gTw_3 10 (by decide +kernel) (by decide +kernel))
theorem cl_RX11_84 : Cond.classLink RX11 84 RX6 ∈ gTw := (gTw_3 35 (by decide +kernel) (by decide +kernel))
theorem cl_RX11_91 : Cond.classLink RX11 91 RX2 ∈ gTw := (gTw_3 53 (by decide +kernel) (by decide +kernel))
theorem cl_RX4_27 : Cond.classLink RX4 27 RX8 ∈ gTw := (gTw_1 41 (by decide +kernel) (by decide +kernel))
theorem cl_RX5_9 : Cond.classLink RX5 9 RX10 ∈ gTw := (gTw_2 87 (by decide +kernel) (by decide +kernel))
theorem cl_RX13_201 : Cond.classLink RX13 201 RX12 ∈ gTw := (gTw_7 135 (by decide +kernel) (by decide +kernel))
theorem kc_RX11_370 : Cond.constant RX11 370 65537 ∈ gTw := (gTw_6 94 (by decide +kernel) (by decide +kernel))
theorem kc_RX10_60 : Cond.constant RX10 60 65537 ∈ gTw := (gTw_6 77 (by decide +kernel) (by decide +kernel))
theorem kc_RX13_567 : Cond.constant RX13 567 65536 ∈ gTw := (gTw_10 56 (by decide +kernel) (by decide +kernel))
theorem kc_RJ6_265 : Cond.constant RJ6 265 1431655765 ∈ gTw := (gTw_4 115 (by decide +kernel) (by decide +kernel))
theorem kc_RJ6_266 : Cond.constant RJ6 266 858993459 ∈ gTw := (gTw_4 116 (by decide +kernel) (by decide +kernel))
theorem kc_RJ6_267 : Cond.constant RJ6 267 252645135 ∈ gTw := (gTw_4 117 (by decide +kernel) (by decide +kernel))
theorem kl_RX2_31 : Cond.constantLong RX2 31 100 ∈ gTw := (gTw_6 38 (by decide +kernel) (by decide +kernel))
theorem kl_RX13_110 : Cond.constantLong RX13 110 32 ∈ gTw := (gTw_8 15 (by decide +kernel) (by decide +kernel))
theorem kl_RX13_540 : Cond.constantLong RX13 540 100 ∈ gTw := (gTw_10 4 (by decide +kernel) (by decide +kernel))
theorem kl_RX13_555 : Cond.constantLong RX13 555 75 ∈ gTw := (gTw_10 33 (by decide +kernel) (by decide +kernel))
theorem kl_RX13_557 : Cond.constantLong RX13 557 74 ∈ gTw := (gTw_10 34 (by decide +kernel) (by decide +kernel))
theorem kl_RX13_559 : Cond.constantLong RX13 559 65537 ∈ gTw := (gTw_10 35 (by decide +kernel) (by decide +kernel))
theorem sr_RX9_89 : (RX9, 89, "glass", 0) ∈ gSr := by decide +kernel
theorem sr_RX9_95 : (RX9, 95, "person", 1) ∈ gSr := by decide +kernel
theorem sr_RX9_97 : (RX9, 97, "stay", 2) ∈ gSr := by decide +kernel
theorem sr_RX9_99 : (RX9, 99, "moves", 3) ∈ gSr := by decide +kernel
theorem sr_RX9_101 : (RX9, 101, "seen", 4) ∈ gSr := by decide +kernel
theorem sr_RX9_103 : (RX9, 103, "says", 5) ∈ gSr := by decide +kernel
theorem sr_RX9_158 : (RX9, 158, "days", 6) ∈ gSr := by decide +kernel
theorem sr_RX9_166 : (RX9, 166, "places", 7) ∈ gSr := by decide +kernel
theorem sr_RX9_170 : (RX9, 170, "colours", 8) ∈ gSr := by decide +kernel
theorem sr_RX9_174 : (RX9, 174, "reach", 9) ∈ gSr := by decide +kernel
theorem sr_RX9_184 : (RX9, 184, "buys", 14) ∈ gSr := by decide +kernel
theorem sr_RX9_189 : (RX9, 189, "likes", 19) ∈ gSr := by decide +kernel
theorem sr_RX9_194 : (RX9, 194, "keeps", 20) ∈ gSr := by decide +kernel
theorem sr_RX9_199 : (RX9, 199, "wears", 21) ∈ gSr := by decide +kernel
theorem sr_RX9_203 : (RX9, 203, "takes", 22) ∈ gSr := by decide +kernel
theorem sr_RX9_211 : (RX9, 211, "sure", 10) ∈ gSr := by decide +kernel
theorem sr_RX9_213 : (RX9, 213, "colour", 11) ∈ gSr := by decide +kernel
theorem sr_RX9_215 : (RX9, 215, "place", 12) ∈ gSr := by decide +kernel
theorem sr_RX9_217 : (RX9, 217, "messy", 13) ∈ gSr := by decide +kernel
theorem sr_RX9_226 : (RX9, 226, "first", 15) ∈ gSr := by decide +kernel
theorem sr_RX9_228 : (RX9, 228, "unlike", 16) ∈ gSr := by decide +kernel
theorem sr_RX9_230 : (RX9, 230, "rare", 17) ∈ gSr := by decide +kernel
theorem sr_RX9_232 : (RX9, 232, "", 18) ∈ gSr := by decide +kernel
theorem sr_RX9_237 : (RX9, 237, "yes", 23) ∈ gSr := by decide +kernel
theorem sr_RX9_242 : (RX9, 242, "no", 24) ∈ gSr := by decide +kernel
theorem sr_RX9_258 : (RX9, 258, "to", 25) ∈ gSr := by decide +kernel
theorem sr_RX13_184 : (RX13, 184, "glass", 26) ∈ gSr := by decide +kernel
theorem sr_RX13_186 : (RX13, 186, "person", 31) ∈ gSr := by decide +kernel
theorem sr_RX13_188 : (RX13, 188, "stay", 32) ∈ gSr := by decide +kernel
theorem sr_RX13_190 : (RX13, 190, "moves", 33) ∈ gSr := by decide +kernel
theorem sr_RX13_192 : (RX13, 192, "seen", 34) ∈ gSr := by decide +kernel
theorem sr_RX13_194 : (RX13, 194, "says", 35) ∈ gSr := by decide +kernel
theorem sr_RX13_240 : (RX13, 240, "days", 27) ∈ gSr := by decide +kernel
theorem sr_RX13_245 : (RX13, 245, "places", 28) ∈ gSr := by decide +kernel
theorem sr_RX13_247 : (RX13, 247, "colours", 29) ∈ gSr := by decide +kernel
theorem sr_RX13_249 : (RX13, 249, "reach", 30) ∈ gSr := by decide +kernel
theorem sr_RX13_261 : (RX13, 261, "sure", 36) ∈ gSr := by decide +kernel
theorem sr_RX13_263 : (RX13, 263, "colour", 37) ∈ gSr := by decide +kernel
theorem sr_RX13_265 : (RX13, 265, "place", 38) ∈ gSr := by decide +kernel
theorem sr_RX13_266 : (RX13, 266, "messy", 39) ∈ gSr := by decide +kernel
theorem sr_RX13_268 : (RX13, 268, "buys", 40) ∈ gSr := by decide +kernel
theorem sr_RX13_270 : (RX13, 270, "first", 41) ∈ gSr := by decide +kernel
theorem sr_RX13_272 : (RX13, 272, "unlike", 42) ∈ gSr := by decide +kernel
theorem sr_RX13_274 : (RX13, 274, "rare", 43) ∈ gSr := by decide +kernel
theorem sr_RX13_276 : (RX13, 276, "likes", 44) ∈ gSr := by decide +kernel
theorem sr_RX13_280 : (RX13, 280, "keeps", 45) ∈ gSr := by decide +kernel
theorem sr_RX13_282 : (RX13, 282, "wears", 46) ∈ gSr := by decide +kernel
theorem sr_RX13_284 : (RX13, 284, "takes", 47) ∈ gSr := by decide +kernel
theorem sr_RX13_286 : (RX13, 286, "yes", 48) ∈ gSr := by decide +kernel
theorem sr_RX13_288 : (RX13, 288, "no", 49) ∈ gSr := by decide +kernel
theorem sr_RX13_318 : (RX13, 318, "to", 50) ∈ gSr := by decide +kernel
theorem aw_0 : Cond.arrayClass (gTy 0) ∈ gTw := (gTw_1 114 (by decide +kernel) (by decide +kernel))
theorem aw_1 : Cond.arrayClass (gTy 1) ∈ gTw := (gTw_1 113 (by decide +kernel) (by decide +kernel))
theorem aw_2 : Cond.arrayClass (gTy 2) ∈ gTw := (gTw_3 74 (by decide +kernel) (by decide +kernel))
theorem aw_3 : Cond.arrayClass (gTy 3) ∈ gTw := (gTw_8 3 (by decide +kernel) (by decide +kernel))
def gF_0 : List gAV := [vR none, vR none, vR none, vR none, vR none, vR none, vR none, vR none, vI 0, vR none, vR none, vR none, vR none, vR none, vR none, vI 0]
def gG_0 : List Value := [.null, .null, .null, .null, .null, .null, .null, .null, .int 0, .null, .null, .null, .null, .null, .null, .int 0]
theorem gNf_0 : gNf 0 gF_0 := ⟨_, _, _, tyX0, gG_0, rfl, tyX0_ok, by decide +kernel, rfl, rfl, gDf_of rfl⟩
def gF_1 : List gAV := [vR none, vR none, vR none, vR none, vR none, vR none, vR none, vR none, vR none, vI 0, vI 0, vI 0, vI 0]
def gG_1 : List Value := [.null, .null, .null, .null, .null, .null, .null, .null, .null, .int 0, .int 0, .int 0, .int 0]
theorem gNf_1 : gNf 1 gF_1 := ⟨_, _, _, tyX1, gG_1, rfl, tyX1_ok, by decide +kernel, rfl, rfl, gDf_of rfl⟩
def gF_2 : List gAV := [vR none, vR none, vL 0, vL 0]
def gG_2 : List Value := [.null, .null, .long 0, .long 0]
theorem gNf_2 : gNf 2 gF_2 := ⟨_, _, _, tyX2, gG_2, rfl, tyX2_ok, by decide +kernel, rfl, rfl, gDf_of rfl⟩
def gF_3 : List gAV := [vR none, vR none, vI 0, vI 0]
def gG_3 : List Value := [.null, .null, .int 0, .int 0]
theorem gNf_3 : gNf 3 gF_3 := ⟨_, _, _, tyX3, gG_3, rfl, tyX3_ok, by decide +kernel, rfl, rfl, gDf_of rfl⟩
def gF_4 : List gAV := [vI 0, vI 0, vI 0, vI 0, vI 0, vR none, vI 0, vR none, vR none, vR none, vI 0, vR none, vR none, vI 0, vR none, vR none, vR none, vR none, vR none, vR none]
def gG_4 : List Value := [.int 0, .int 0, .int 0, .int 0, .int 0, .null, .int 0, .null, .null, .null, .int 0, .null, .null, .int 0, .null, .null, .null, .null, .null, .null]
theorem gNf_4 : gNf 4 gF_4 := ⟨_, _, _, tyX4, gG_4, rfl, tyX4_ok, by decide +kernel, rfl, rfl, gDf_of rfl⟩
def gF_5 : List gAV := [vR none, vR none, vI 0, vI 0, vI 0]
def gG_5 : List Value := [.null, .null, .int 0, .int 0, .int 0]
theorem gNf_5 : gNf 5 gF_5 := ⟨_, _, _, tyX5, gG_5, rfl, tyX5_ok, by decide +kernel, rfl, rfl, gDf_of rfl⟩
def gF_6 : List gAV := [vR none, vR none, vI 0]
def gG_6 : List Value := [.null, .null, .int 0]
theorem gNf_6 : gNf 6 gF_6 := ⟨_, _, _, tyX6, gG_6, rfl, tyX6_ok, by decide +kernel, rfl, rfl, gDf_of rfl⟩
def gF_7 : List gAV := [vI 0, vR none, vR none, vR none, vR none, vI 0]
def gG_7 : List Value := [.int 0, .null, .null, .null, .null, .int 0]
theorem gNf_7 : gNf 7 gF_7 := ⟨_, _, _, tyX7, gG_7, rfl, tyX7_ok, by decide +kernel, rfl, rfl, gDf_of rfl⟩
def gF_8 : List gAV := [vI 0, vI 0, vI 0, vI 0, vI 0, vR none, vI 0, vI 0, vI 0, vI 0, vR none, vR none]
def gG_8 : List Value := [.int 0, .int 0, .int 0, .int 0, .int 0, .null, .int 0, .int 0, .int 0, .int 0, .null, .null]
theorem gNf_8 : gNf 8 gF_8 := ⟨_, _, _, tyX8, gG_8, rfl, tyX8_ok, by decide +kernel, rfl, rfl, gDf_of rfl⟩
def gF_9 : List gAV := [vR none, vI 0, vI 0, vI 0, vI 0, vI 0, vI 0, vI 0, vR none, vI 0, vI 0]
def gG_9 : List Value := [.null, .int 0, .int 0, .int 0, .int 0, .int 0, .int 0, .int 0, .null, .int 0, .int 0]
theorem gNf_9 : gNf 9 gF_9 := ⟨_, _, _, tyX9, gG_9, rfl, tyX9_ok, by decide +kernel, rfl, rfl, gDf_of rfl⟩
def gF_10 : List gAV := [vR none, vR none, vR none, vI 0, vR none, vR none, vR none, vI 0]
def gG_10 : List Value := [.null, .null, .null, .int 0, .null, .null, .null, .int 0]
theorem gNf_10 : gNf 10 gF_10 := ⟨_, _, _, tyX10, gG_10, rfl, tyX10_ok, by decide +kernel, rfl, rfl, gDf_of rfl⟩
def gF_11 : List gAV := [vR none, vI 0, vR none, vR none, vR none, vR none, vR none, vR none, vR none, vR none, vR none, vR none, vR none, vR none, vI 0, vI 0]
def gG_11 : List Value := [.null, .int 0, .null, .null, .null, .null, .null, .null, .null, .null, .null, .null, .null, .null, .int 0, .int 0]
theorem gNf_11 : gNf 11 gF_11 := ⟨_, _, _, tyX11, gG_11, rfl, tyX11_ok, by decide +kernel, rfl, rfl, gDf_of rfl⟩
def gF_12 : List gAV := [vI 0, vI 0, vI 0, vI 0, vI 0, vI 0, vI 0, vI 0, vR none, vR none, vR none, vR none, vR none, vR none, vR none, vR none, vR none, vR none, vR none, vR none, vR none, vR none, vR none, vR none, vR none, vR none, vR none]
def gG_12 : List Value := [.int 0, .int 0, .int 0, .int 0, .int 0, .int 0, .int 0, .int 0, .null, .null, .null, .null, .null, .null, .null, .null, .null, .null, .null, .null, .null, .null, .null, .null, .null, .null, .null]
theorem gNf_12 : gNf 12 gF_12 := ⟨_, _, _, tyX12, gG_12, rfl, tyX12_ok, by decide +kernel, rfl, rfl, gDf_of rfl⟩
def gF_13 : List gAV := [vI 0, vI 0, vI 0, vR none, vR none, vR none, vI 0, vI 0, vI 0, vI 0, vI 0, vI 0, vI 0, vI 0, vI 0, vI 0, vR none, vL 0, vR none, vR none, vR none, vI 0, vI 0, vR none, vR none, vR none, vR none, vR none, vR none, vR none, vR none, vR none, vR none, vR none, vR none, vI 0, vI 0, vI 0, vI 0, vI 0, vI 0, vR none, vI 0, vI 0, vI 0, vR none, vR none, vR none, vR none, vI 0, vR none, vR none]
def gG_13 : List Value := [.int 0, .int 0, .int 0, .null, .null, .null, .int 0, .int 0, .int 0, .int 0, .int 0, .int 0, .int 0, .int 0, .int 0, .int 0, .null, .long 0, .null, .null, .null, .int 0, .int 0, .null, .null, .null, .null, .null, .null, .null, .null, .null, .null, .null, .null, .int 0, .int 0, .int 0, .int 0, .int 0, .int 0, .null, .int 0, .int 0, .int 0, .null, .null, .null, .null, .int 0, .null, .null]
theorem gNf_13 : gNf 13 gF_13 := ⟨_, _, _, tyX13, gG_13, rfl, tyX13_ok, by decide +kernel, rfl, rfl, gDf_of rfl⟩
