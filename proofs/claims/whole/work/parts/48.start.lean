/-! printed by wip/whole/law3.py: the law's start -/
theorem mo_87 : gMok (yX11_init, cX11_init, 1, none, some 11) 0 := ⟨(gTw_1 31 (by decide +kernel) (by decide +kernel)), (gTw_1 1 (by decide +kernel) (by decide +kernel)), ⟨by decide, by decide, by decide +kernel⟩, by decide⟩
theorem mt_87 : gMt[87]? = some (yX11_init, cX11_init, 1, none, some 11) := gMtc_2 (j := 7) rfl
theorem im_87 : Cond.instanceMethod yX11_init ∈ gTw := (gTw_1 30 (by decide +kernel) (by decide +kernel))
theorem nk_RL_15 : gNk1 RL 15 87 0 := ⟨_, mt_87, mo_87, rfl, rfl, im_87, Or.inl (gTw_1 29 (by decide +kernel) (by decide +kernel))⟩
theorem mo_170 : gMok (yX13_init, cX13_init, 1, none, some 13) 0 := ⟨(gTw_6 200 (by decide +kernel) (by decide +kernel)), (gTw_1 13 (by decide +kernel) (by decide +kernel)), ⟨by decide, by decide, by decide +kernel⟩, by decide⟩
theorem mt_170 : gMt[170]? = some (yX13_init, cX13_init, 1, none, some 13) := gMtc_4 (j := 10) rfl
theorem im_170 : Cond.instanceMethod yX13_init ∈ gTw := (gTw_6 199 (by decide +kernel) (by decide +kernel))
theorem nk_RL_18 : gNk1 RL 18 170 0 := ⟨_, mt_170, mo_170, rfl, rfl, im_170, Or.inl (gTw_6 198 (by decide +kernel) (by decide +kernel))⟩
theorem lw_cl8 : (Cond.classLink "BrushGlassLaw" (8 : Nat) "BrushGlass") ∈ gTw := (gTw_1 27 (by decide +kernel) (by decide +kernel))
theorem lw_cl16 : (Cond.classLink "BrushGlassLaw" (16 : Nat) "BrushGlassModel") ∈ gTw := (gTw_6 196 (by decide +kernel) (by decide +kernel))
theorem lw_al : Cond.arrayClass (gTy 2) ∈ gTw := (gTw_3 74 (by decide +kernel) (by decide +kernel))

theorem st_known {s : State} {args : Array Value} (hts : ∀ w ∈ gTw, w.before args s = true) : ∃ D : va_G, ∀ (k : Nat) (q : vw_C), vwCl[k]? = some q → u_Kn s q.1 q.2.1 q.2.2 (D.1 k) (D.2 k) := by
  have h : ∀ k : Nat, ∃ x : ClassId × (Nat → Nat), ∀ q : vw_C, vwCl[k]? = some q → u_Kn s q.1 q.2.1 q.2.2 x.1 x.2 := by
    intro k
    cases hq : vwCl[k]? with
    | none => exact ⟨(0, fun _ => 0), fun q h => by cases h⟩
    | some q =>
      obtain ⟨C, T, N⟩ := q
      obtain ⟨h1, -, -, h4, -⟩ := gCl_ok hq
      obtain ⟨cC, iS, hK⟩ := u_known hts h1 (hts _ h4)
      exact ⟨(cC, iS), fun q hq2 => by cases hq2; exact hK⟩
  obtain ⟨f, hf⟩ := Classical.axiomOfChoice h
  exact ⟨(fun k => (f k).1, fun k => (f k).2), fun k q hq => hf k q hq⟩
def gTm (i : Nat) : Term := .string (gSr.getD i ("", 0, "", 0)).1 (gSr.getD i ("", 0, "", 0)).2.1
abbrev gFl : List Cond := flatC (Jvm.Cond.and given_1 narrow_1)
theorem st_ex : ∀ i : Nat, i < 51 → Cond.exactly (gTm i) "java/lang/String" ∈ gFl := by decide +kernel
theorem st_co : ∀ i : Nat, i < 51 → Cond.eq (.field (gTm i) "java/lang/String" "coder" "B") (.int 0) ∈ gFl := by decide +kernel
theorem st_ar : ∀ i : Nat, i < 51 → Cond.arrayOf (.field (gTm i) "java/lang/String" "value" "[B") .byte ∈ gFl := by decide +kernel
theorem st_le : ∀ i : Nat, i < 51 → Cond.eq (.length (.field (gTm i) "java/lang/String" "value" "[B")) (.int (Int32.ofNat ((gTxt.map List.length).getD i 0))) ∈ gFl := by decide +kernel
theorem st_el0 : ∀ j : Nat, j < (gTxt.map List.length).getD 0 0 → Cond.eq (.elem (.field (gTm 0) "java/lang/String" "value" "[B") (.int (Int32.ofNat j))) (.int (((gTxt.map (fun t => t.map Int32.ofInt)).getD 0 []).getD j 0)) ∈ gFl := by decide +kernel
theorem st_el1 : ∀ j : Nat, j < (gTxt.map List.length).getD 1 0 → Cond.eq (.elem (.field (gTm 1) "java/lang/String" "value" "[B") (.int (Int32.ofNat j))) (.int (((gTxt.map (fun t => t.map Int32.ofInt)).getD 1 []).getD j 0)) ∈ gFl := by decide +kernel
theorem st_el2 : ∀ j : Nat, j < (gTxt.map List.length).getD 2 0 → Cond.eq (.elem (.field (gTm 2) "java/lang/String" "value" "[B") (.int (Int32.ofNat j))) (.int (((gTxt.map (fun t => t.map Int32.ofInt)).getD 2 []).getD j 0)) ∈ gFl := by decide +kernel
theorem st_el3 : ∀ j : Nat, j < (gTxt.map List.length).getD 3 0 → Cond.eq (.elem (.field (gTm 3) "java/lang/String" "value" "[B") (.int (Int32.ofNat j))) (.int (((gTxt.map (fun t => t.map Int32.ofInt)).getD 3 []).getD j 0)) ∈ gFl := by decide +kernel
theorem st_el4 : ∀ j : Nat, j < (gTxt.map List.length).getD 4 0 → Cond.eq (.elem (.field (gTm 4) "java/lang/String" "value" "[B") (.int (Int32.ofNat j))) (.int (((gTxt.map (fun t => t.map Int32.ofInt)).getD 4 []).getD j 0)) ∈ gFl := by decide +kernel
theorem st_el5 : ∀ j : Nat, j < (gTxt.map List.length).getD 5 0 → Cond.eq (.elem (.field (gTm 5) "java/lang/String" "value" "[B") (.int (Int32.ofNat j))) (.int (((gTxt.map (fun t => t.map Int32.ofInt)).getD 5 []).getD j 0)) ∈ gFl := by decide +kernel
theorem st_el6 : ∀ j : Nat, j < (gTxt.map List.length).getD 6 0 → Cond.eq (.elem (.field (gTm 6) "java/lang/String" "value" "[B") (.int (Int32.ofNat j))) (.int (((gTxt.map (fun t => t.map Int32.ofInt)).getD 6 []).getD j 0)) ∈ gFl := by decide +kernel
theorem st_el7 : ∀ j : Nat, j < (gTxt.map List.length).getD 7 0 → Cond.eq (.elem (.field (gTm 7) "java/lang/String" "value" "[B") (.int (Int32.ofNat j))) (.int (((gTxt.map (fun t => t.map Int32.ofInt)).getD 7 []).getD j 0)) ∈ gFl := by decide +kernel
theorem st_el8 : ∀ j : Nat, j < (gTxt.map List.length).getD 8 0 → Cond.eq (.elem (.field (gTm 8) "java/lang/String" "value" "[B") (.int (Int32.ofNat j))) (.int (((gTxt.map (fun t => t.map Int32.ofInt)).getD 8 []).getD j 0)) ∈ gFl := by decide +kernel
theorem st_el9 : ∀ j : Nat, j < (gTxt.map List.length).getD 9 0 → Cond.eq (.elem (.field (gTm 9) "java/lang/String" "value" "[B") (.int (Int32.ofNat j))) (.int (((gTxt.map (fun t => t.map Int32.ofInt)).getD 9 []).getD j 0)) ∈ gFl := by decide +kernel
theorem st_el10 : ∀ j : Nat, j < (gTxt.map List.length).getD 10 0 → Cond.eq (.elem (.field (gTm 10) "java/lang/String" "value" "[B") (.int (Int32.ofNat j))) (.int (((gTxt.map (fun t => t.map Int32.ofInt)).getD 10 []).getD j 0)) ∈ gFl := by decide +kernel
theorem st_el11 : ∀ j : Nat, j < (gTxt.map List.length).getD 11 0 → Cond.eq (.elem (.field (gTm 11) "java/lang/String" "value" "[B") (.int (Int32.ofNat j))) (.int (((gTxt.map (fun t => t.map Int32.ofInt)).getD 11 []).getD j 0)) ∈ gFl := by decide +kernel
theorem st_el12 : ∀ j : Nat, j < (gTxt.map List.length).getD 12 0 → Cond.eq (.elem (.field (gTm 12) "java/lang/String" "value" "[B") (.int (Int32.ofNat j))) (.int (((gTxt.map (fun t => t.map Int32.ofInt)).getD 12 []).getD j 0)) ∈ gFl := by decide +kernel
theorem st_el13 : ∀ j : Nat, j < (gTxt.map List.length).getD 13 0 → Cond.eq (.elem (.field (gTm 13) "java/lang/String" "value" "[B") (.int (Int32.ofNat j))) (.int (((gTxt.map (fun t => t.map Int32.ofInt)).getD 13 []).getD j 0)) ∈ gFl := by decide +kernel
theorem st_el14 : ∀ j : Nat, j < (gTxt.map List.length).getD 14 0 → Cond.eq (.elem (.field (gTm 14) "java/lang/String" "value" "[B") (.int (Int32.ofNat j))) (.int (((gTxt.map (fun t => t.map Int32.ofInt)).getD 14 []).getD j 0)) ∈ gFl := by decide +kernel
theorem st_el15 : ∀ j : Nat, j < (gTxt.map List.length).getD 15 0 → Cond.eq (.elem (.field (gTm 15) "java/lang/String" "value" "[B") (.int (Int32.ofNat j))) (.int (((gTxt.map (fun t => t.map Int32.ofInt)).getD 15 []).getD j 0)) ∈ gFl := by decide +kernel
theorem st_el16 : ∀ j : Nat, j < (gTxt.map List.length).getD 16 0 → Cond.eq (.elem (.field (gTm 16) "java/lang/String" "value" "[B") (.int (Int32.ofNat j))) (.int (((gTxt.map (fun t => t.map Int32.ofInt)).getD 16 []).getD j 0)) ∈ gFl := by decide +kernel
theorem st_el17 : ∀ j : Nat, j < (gTxt.map List.length).getD 17 0 → Cond.eq (.elem (.field (gTm 17) "java/lang/String" "value" "[B") (.int (Int32.ofNat j))) (.int (((gTxt.map (fun t => t.map Int32.ofInt)).getD 17 []).getD j 0)) ∈ gFl := by decide +kernel
theorem st_el18 : ∀ j : Nat, j < (gTxt.map List.length).getD 18 0 → Cond.eq (.elem (.field (gTm 18) "java/lang/String" "value" "[B") (.int (Int32.ofNat j))) (.int (((gTxt.map (fun t => t.map Int32.ofInt)).getD 18 []).getD j 0)) ∈ gFl := by decide +kernel
theorem st_el19 : ∀ j : Nat, j < (gTxt.map List.length).getD 19 0 → Cond.eq (.elem (.field (gTm 19) "java/lang/String" "value" "[B") (.int (Int32.ofNat j))) (.int (((gTxt.map (fun t => t.map Int32.ofInt)).getD 19 []).getD j 0)) ∈ gFl := by decide +kernel
theorem st_el20 : ∀ j : Nat, j < (gTxt.map List.length).getD 20 0 → Cond.eq (.elem (.field (gTm 20) "java/lang/String" "value" "[B") (.int (Int32.ofNat j))) (.int (((gTxt.map (fun t => t.map Int32.ofInt)).getD 20 []).getD j 0)) ∈ gFl := by decide +kernel
theorem st_el21 : ∀ j : Nat, j < (gTxt.map List.length).getD 21 0 → Cond.eq (.elem (.field (gTm 21) "java/lang/String" "value" "[B") (.int (Int32.ofNat j))) (.int (((gTxt.map (fun t => t.map Int32.ofInt)).getD 21 []).getD j 0)) ∈ gFl := by decide +kernel
theorem st_el22 : ∀ j : Nat, j < (gTxt.map List.length).getD 22 0 → Cond.eq (.elem (.field (gTm 22) "java/lang/String" "value" "[B") (.int (Int32.ofNat j))) (.int (((gTxt.map (fun t => t.map Int32.ofInt)).getD 22 []).getD j 0)) ∈ gFl := by decide +kernel
theorem st_el23 : ∀ j : Nat, j < (gTxt.map List.length).getD 23 0 → Cond.eq (.elem (.field (gTm 23) "java/lang/String" "value" "[B") (.int (Int32.ofNat j))) (.int (((gTxt.map (fun t => t.map Int32.ofInt)).getD 23 []).getD j 0)) ∈ gFl := by decide +kernel
theorem st_el24 : ∀ j : Nat, j < (gTxt.map List.length).getD 24 0 → Cond.eq (.elem (.field (gTm 24) "java/lang/String" "value" "[B") (.int (Int32.ofNat j))) (.int (((gTxt.map (fun t => t.map Int32.ofInt)).getD 24 []).getD j 0)) ∈ gFl := by decide +kernel
theorem st_el25 : ∀ j : Nat, j < (gTxt.map List.length).getD 25 0 → Cond.eq (.elem (.field (gTm 25) "java/lang/String" "value" "[B") (.int (Int32.ofNat j))) (.int (((gTxt.map (fun t => t.map Int32.ofInt)).getD 25 []).getD j 0)) ∈ gFl := by decide +kernel
theorem st_el26 : ∀ j : Nat, j < (gTxt.map List.length).getD 26 0 → Cond.eq (.elem (.field (gTm 26) "java/lang/String" "value" "[B") (.int (Int32.ofNat j))) (.int (((gTxt.map (fun t => t.map Int32.ofInt)).getD 26 []).getD j 0)) ∈ gFl := by decide +kernel
theorem st_el27 : ∀ j : Nat, j < (gTxt.map List.length).getD 27 0 → Cond.eq (.elem (.field (gTm 27) "java/lang/String" "value" "[B") (.int (Int32.ofNat j))) (.int (((gTxt.map (fun t => t.map Int32.ofInt)).getD 27 []).getD j 0)) ∈ gFl := by decide +kernel
theorem st_el28 : ∀ j : Nat, j < (gTxt.map List.length).getD 28 0 → Cond.eq (.elem (.field (gTm 28) "java/lang/String" "value" "[B") (.int (Int32.ofNat j))) (.int (((gTxt.map (fun t => t.map Int32.ofInt)).getD 28 []).getD j 0)) ∈ gFl := by decide +kernel
theorem st_el29 : ∀ j : Nat, j < (gTxt.map List.length).getD 29 0 → Cond.eq (.elem (.field (gTm 29) "java/lang/String" "value" "[B") (.int (Int32.ofNat j))) (.int (((gTxt.map (fun t => t.map Int32.ofInt)).getD 29 []).getD j 0)) ∈ gFl := by decide +kernel
theorem st_el30 : ∀ j : Nat, j < (gTxt.map List.length).getD 30 0 → Cond.eq (.elem (.field (gTm 30) "java/lang/String" "value" "[B") (.int (Int32.ofNat j))) (.int (((gTxt.map (fun t => t.map Int32.ofInt)).getD 30 []).getD j 0)) ∈ gFl := by decide +kernel
theorem st_el31 : ∀ j : Nat, j < (gTxt.map List.length).getD 31 0 → Cond.eq (.elem (.field (gTm 31) "java/lang/String" "value" "[B") (.int (Int32.ofNat j))) (.int (((gTxt.map (fun t => t.map Int32.ofInt)).getD 31 []).getD j 0)) ∈ gFl := by decide +kernel
theorem st_el32 : ∀ j : Nat, j < (gTxt.map List.length).getD 32 0 → Cond.eq (.elem (.field (gTm 32) "java/lang/String" "value" "[B") (.int (Int32.ofNat j))) (.int (((gTxt.map (fun t => t.map Int32.ofInt)).getD 32 []).getD j 0)) ∈ gFl := by decide +kernel
theorem st_el33 : ∀ j : Nat, j < (gTxt.map List.length).getD 33 0 → Cond.eq (.elem (.field (gTm 33) "java/lang/String" "value" "[B") (.int (Int32.ofNat j))) (.int (((gTxt.map (fun t => t.map Int32.ofInt)).getD 33 []).getD j 0)) ∈ gFl := by decide +kernel
theorem st_el34 : ∀ j : Nat, j < (gTxt.map List.length).getD 34 0 → Cond.eq (.elem (.field (gTm 34) "java/lang/String" "value" "[B") (.int (Int32.ofNat j))) (.int (((gTxt.map (fun t => t.map Int32.ofInt)).getD 34 []).getD j 0)) ∈ gFl := by decide +kernel
theorem st_el35 : ∀ j : Nat, j < (gTxt.map List.length).getD 35 0 → Cond.eq (.elem (.field (gTm 35) "java/lang/String" "value" "[B") (.int (Int32.ofNat j))) (.int (((gTxt.map (fun t => t.map Int32.ofInt)).getD 35 []).getD j 0)) ∈ gFl := by decide +kernel
theorem st_el36 : ∀ j : Nat, j < (gTxt.map List.length).getD 36 0 → Cond.eq (.elem (.field (gTm 36) "java/lang/String" "value" "[B") (.int (Int32.ofNat j))) (.int (((gTxt.map (fun t => t.map Int32.ofInt)).getD 36 []).getD j 0)) ∈ gFl := by decide +kernel
theorem st_el37 : ∀ j : Nat, j < (gTxt.map List.length).getD 37 0 → Cond.eq (.elem (.field (gTm 37) "java/lang/String" "value" "[B") (.int (Int32.ofNat j))) (.int (((gTxt.map (fun t => t.map Int32.ofInt)).getD 37 []).getD j 0)) ∈ gFl := by decide +kernel
theorem st_el38 : ∀ j : Nat, j < (gTxt.map List.length).getD 38 0 → Cond.eq (.elem (.field (gTm 38) "java/lang/String" "value" "[B") (.int (Int32.ofNat j))) (.int (((gTxt.map (fun t => t.map Int32.ofInt)).getD 38 []).getD j 0)) ∈ gFl := by decide +kernel
theorem st_el39 : ∀ j : Nat, j < (gTxt.map List.length).getD 39 0 → Cond.eq (.elem (.field (gTm 39) "java/lang/String" "value" "[B") (.int (Int32.ofNat j))) (.int (((gTxt.map (fun t => t.map Int32.ofInt)).getD 39 []).getD j 0)) ∈ gFl := by decide +kernel
theorem st_el40 : ∀ j : Nat, j < (gTxt.map List.length).getD 40 0 → Cond.eq (.elem (.field (gTm 40) "java/lang/String" "value" "[B") (.int (Int32.ofNat j))) (.int (((gTxt.map (fun t => t.map Int32.ofInt)).getD 40 []).getD j 0)) ∈ gFl := by decide +kernel
theorem st_el41 : ∀ j : Nat, j < (gTxt.map List.length).getD 41 0 → Cond.eq (.elem (.field (gTm 41) "java/lang/String" "value" "[B") (.int (Int32.ofNat j))) (.int (((gTxt.map (fun t => t.map Int32.ofInt)).getD 41 []).getD j 0)) ∈ gFl := by decide +kernel
theorem st_el42 : ∀ j : Nat, j < (gTxt.map List.length).getD 42 0 → Cond.eq (.elem (.field (gTm 42) "java/lang/String" "value" "[B") (.int (Int32.ofNat j))) (.int (((gTxt.map (fun t => t.map Int32.ofInt)).getD 42 []).getD j 0)) ∈ gFl := by decide +kernel
theorem st_el43 : ∀ j : Nat, j < (gTxt.map List.length).getD 43 0 → Cond.eq (.elem (.field (gTm 43) "java/lang/String" "value" "[B") (.int (Int32.ofNat j))) (.int (((gTxt.map (fun t => t.map Int32.ofInt)).getD 43 []).getD j 0)) ∈ gFl := by decide +kernel
theorem st_el44 : ∀ j : Nat, j < (gTxt.map List.length).getD 44 0 → Cond.eq (.elem (.field (gTm 44) "java/lang/String" "value" "[B") (.int (Int32.ofNat j))) (.int (((gTxt.map (fun t => t.map Int32.ofInt)).getD 44 []).getD j 0)) ∈ gFl := by decide +kernel
theorem st_el45 : ∀ j : Nat, j < (gTxt.map List.length).getD 45 0 → Cond.eq (.elem (.field (gTm 45) "java/lang/String" "value" "[B") (.int (Int32.ofNat j))) (.int (((gTxt.map (fun t => t.map Int32.ofInt)).getD 45 []).getD j 0)) ∈ gFl := by decide +kernel
theorem st_el46 : ∀ j : Nat, j < (gTxt.map List.length).getD 46 0 → Cond.eq (.elem (.field (gTm 46) "java/lang/String" "value" "[B") (.int (Int32.ofNat j))) (.int (((gTxt.map (fun t => t.map Int32.ofInt)).getD 46 []).getD j 0)) ∈ gFl := by decide +kernel
theorem st_el47 : ∀ j : Nat, j < (gTxt.map List.length).getD 47 0 → Cond.eq (.elem (.field (gTm 47) "java/lang/String" "value" "[B") (.int (Int32.ofNat j))) (.int (((gTxt.map (fun t => t.map Int32.ofInt)).getD 47 []).getD j 0)) ∈ gFl := by decide +kernel
theorem st_el48 : ∀ j : Nat, j < (gTxt.map List.length).getD 48 0 → Cond.eq (.elem (.field (gTm 48) "java/lang/String" "value" "[B") (.int (Int32.ofNat j))) (.int (((gTxt.map (fun t => t.map Int32.ofInt)).getD 48 []).getD j 0)) ∈ gFl := by decide +kernel
theorem st_el49 : ∀ j : Nat, j < (gTxt.map List.length).getD 49 0 → Cond.eq (.elem (.field (gTm 49) "java/lang/String" "value" "[B") (.int (Int32.ofNat j))) (.int (((gTxt.map (fun t => t.map Int32.ofInt)).getD 49 []).getD j 0)) ∈ gFl := by decide +kernel
theorem st_el50 : ∀ j : Nat, j < (gTxt.map List.length).getD 50 0 → Cond.eq (.elem (.field (gTm 50) "java/lang/String" "value" "[B") (.int (Int32.ofNat j))) (.int (((gTxt.map (fun t => t.map Int32.ofInt)).getD 50 []).getD j 0)) ∈ gFl := by decide +kernel
theorem st_el (i : Nat) (hi : i < 51) : ∀ j : Nat, j < (gTxt.map List.length).getD i 0 → Cond.eq (.elem (.field (gTm i) "java/lang/String" "value" "[B") (.int (Int32.ofNat j))) (.int (((gTxt.map (fun t => t.map Int32.ofInt)).getD i []).getD j 0)) ∈ gFl := by
  match i, hi with
  | 0, _ => exact st_el0
  | 1, _ => exact st_el1
  | 2, _ => exact st_el2
  | 3, _ => exact st_el3
  | 4, _ => exact st_el4
  | 5, _ => exact st_el5
  | 6, _ => exact st_el6
  | 7, _ => exact st_el7
  | 8, _ => exact st_el8
  | 9, _ => exact st_el9
  | 10, _ => exact st_el10
  | 11, _ => exact st_el11
  | 12, _ => exact st_el12
  | 13, _ => exact st_el13
  | 14, _ => exact st_el14
  | 15, _ => exact st_el15
  | 16, _ => exact st_el16
  | 17, _ => exact st_el17
  | 18, _ => exact st_el18
  | 19, _ => exact st_el19
  | 20, _ => exact st_el20
  | 21, _ => exact st_el21
  | 22, _ => exact st_el22
  | 23, _ => exact st_el23
  | 24, _ => exact st_el24
  | 25, _ => exact st_el25
  | 26, _ => exact st_el26
  | 27, _ => exact st_el27
  | 28, _ => exact st_el28
  | 29, _ => exact st_el29
  | 30, _ => exact st_el30
  | 31, _ => exact st_el31
  | 32, _ => exact st_el32
  | 33, _ => exact st_el33
  | 34, _ => exact st_el34
  | 35, _ => exact st_el35
  | 36, _ => exact st_el36
  | 37, _ => exact st_el37
  | 38, _ => exact st_el38
  | 39, _ => exact st_el39
  | 40, _ => exact st_el40
  | 41, _ => exact st_el41
  | 42, _ => exact st_el42
  | 43, _ => exact st_el43
  | 44, _ => exact st_el44
  | 45, _ => exact st_el45
  | 46, _ => exact st_el46
  | 47, _ => exact st_el47
  | 48, _ => exact st_el48
  | 49, _ => exact st_el49
  | 50, _ => exact st_el50
  | i + 51, hi => omega
theorem st_len : gTxt.length = 51 := by decide +kernel
theorem st_txt {args : Array Value} {s : State} {A : Nat → Prop} (hg : ∀ c ∈ gFl, c.before args s = true) (hA : ∀ a : Nat, a < s.heap.size → ¬ A a) : ∃ adK adV : Nat → Nat, gVS adK adV A s s.heap ∧ ∀ i : Nat, i < gTxt.length → (gTm i).eval args s none [] s = some (.ref (adK i)) := by
  have h0 : ∀ i : Nat, ∃ q : Nat × Nat, i < gTxt.length → (gTm i).eval args s none [] s = some (.ref q.1) ∧ va_O "java/lang/String" q.1 A s s.heap ∧ va_OF "java/lang/String" "coder" "B" (.int 0) q.1 A s s.heap ∧ va_OF "java/lang/String" "value" "[B" (.ref q.2) q.1 A s s.heap ∧ va_T .byte q.2 ((gTxt.map List.length).getD i 0) (fun j => .int (((gTxt.map (fun t => t.map Int32.ofInt)).getD i []).getD j 0)) A s s.heap := by
    intro i
    by_cases hi : i < gTxt.length
    · have hi' : i < 51 := by rw [← st_len]; exact hi
      obtain ⟨a, c, cA, kA, q1, q2, q3, q4, q5, q6, -⟩ := Cond.exactly_spec (args := args) (first := s) (o := none) (s := s) (idx := []) (t := gTm i) (cls := "java/lang/String") (hg _ (st_ex i hi'))
      obtain ⟨t, ht, hT⟩ := va_Tof (f := fun j => .int (((gTxt.map (fun t => t.map Int32.ofInt)).getD i []).getD j 0)) (A := A) (Nat.lt_trans (gTl_lt hi) (by decide)) (hg _ (st_ar i hi')) (va_eqt (hg _ (st_le i hi'))) (fun j hj => va_eqt (hg _ (st_el i hi' j hj))) hA
      exact ⟨(a, t), fun _ => ⟨q1, ⟨cA, q3, q5, by rw [q6]; exact q2, hA a (Array.getElem?_eq_some_iff.mp q3).1⟩, vk_OFof q1 (va_eqt (hg _ (st_co i hi'))) hA, vk_OFof q1 ht hA, hT⟩⟩
    · exact ⟨(0, 0), fun h => absurd h hi⟩
  obtain ⟨ad, had⟩ := Classical.axiomOfChoice h0
  exact ⟨fun i => (ad i).1, fun i => (ad i).2, fun i hi => (had i hi).2, fun i hi => (had i hi).1⟩
theorem st_nw : ∀ w ∈ gNw, w ∈ lw_tbl ∧ w.onTables = true := by decide +kernel
theorem st_nx : ∀ w ∈ gNx, w ∈ lw_tbl ∧ w.onTables = true := by decide +kernel
theorem st_sr : ∀ q ∈ gSr, Cond.stringRef q.1 q.2.1 q.2.2.1 ∈ lw_tbl ∧ q.2.2.2 < 51 ∧ gTm q.2.2.2 = .string q.1 q.2.1 := by decide +kernel
theorem st_env {s : State} {b : Nat} (hts : ∀ w ∈ lw_tbl, w.before #[Value.ref b] s = true) (hgv : (Jvm.Cond.and given_1 narrow_1).before #[Value.ref b] s = true) : ∃ adK adV : Nat → Nat, gEv gNw gSr adK adV (fun q => s.heap.size ≤ q) s s.heap ∧ jX (fun q => s.heap.size ≤ q) s s.heap := by
  have hg : ∀ c ∈ gFl, c.before #[Value.ref b] s = true := flat_of_before _ hgv
  have hA : ∀ a : Nat, a < s.heap.size → ¬ (fun q => s.heap.size ≤ q) a := fun a h => Nat.not_le.mpr h
  obtain ⟨adK, adV, hV, hT⟩ := st_txt (A := fun q => s.heap.size ≤ q) hg hA
  refine ⟨adK, adV, ⟨fun w hw => va_Nw.of (st_nw w hw).2 (hts w (st_nw w hw).1), fun q hq => ?_, hV, fun i => ?_, ?_, ?_⟩, fun w hw => va_Nw.of (st_nx w hw).2 (hts w (st_nx w hw).1), ?_, ?_⟩
  · obtain ⟨h1, h2, h3⟩ := st_sr q hq
    have h4 := hT q.2.2.2 (by rw [st_len]; exact h2)
    rw [h3] at h4
    exact vk_R.of (hts _ h1) h4
  · match i with
    | 0 => exact va_AO.of (hts _ (by decide +kernel))
    | i + 1 => exact va_AO.of (hts (Cond.arrayOver (.object RX10)) (by decide +kernel))
  · exact va_Zof (hts _ (by decide +kernel)) (hts _ (by decide +kernel)) (va_eqi (hg _ (by decide +kernel))) hA
  · rcases va_Zqof (A := fun q => s.heap.size ≤ q) (C := "jdk/internal/util/Preconditions") (n := "SIOOBE_FORMATTER") (d := "Ljava/util/function/BiFunction;") (hts _ (by decide +kernel)) (hts _ (by decide +kernel)) (hg _ (by decide +kernel)) hA with h | ⟨t, h⟩
    · exact ⟨none, h⟩
    · exact ⟨some t, h⟩
  · exact vx_Zqof (hts _ (by decide +kernel)) (hts _ (by decide +kernel)) (hg _ (by decide +kernel)) hA
  · exact vx_Zqof (hts _ (by decide +kernel)) (hts _ (by decide +kernel)) (hg _ (by decide +kernel)) hA
theorem st_flag {l : Launch} (h : l.flags = flags0) : l.stackTraces = false := by
  unfold Launch.stackTraces
  rw [h]
  decide +kernel
/-- the law's first lines -/
theorem law_pro {C : gOrc} {sb X M O : Nat} (Γ : gG) (ok : gOK (code, RL, 7, false) C Γ) (h h1 h2 h3 : gH) (e1 : ∀ L, nwR C 11 gF_11 87 a0 L h = some (some X, h1)) (e2 : ∀ L, nwR C 13 gF_13 170 a0 L h1 = some (some M, h2)) (e3 : ∀ L, naR 2 (kI 1) L h2 = some (some O, h3)) (ws : va_W) (tys : gTs) (H : Heap) (locs : List Loc) (ls : Array Slot) (h0 : ls[0]? = some (.val (.ref sb))) (hS : gS Γ ws tys h H locs) (hsz : ls.size = 7) (hwf : lv_wf ls) (hm : gRm Γ h3)
    (kk : ∀ (ws' : va_W) (tys' : gTs) (H' : Heap) (locs' : List Loc) (ls' : Array Slot), gS Γ ws' tys' h3 H' locs' → ls'[0]? = some (.val (.ref sb)) → gLR Γ 7 ws' ls' (lawL X M O 0) → gW Γ H' locs' h3 (fun m => F0 m 23 ls' [])) : gW Γ H locs h (fun m => F0 m 0 ls []) := by
  have A1 : gR (code, RL, 7, false) C 0 0 7 (nwR C 11 gF_11 87 a0) := gR_new (ix := 8) (ix2 := 15) (p1 := 4) gNf_11 ⟨_, _, rfl⟩ lw_cl8 (by decide +kernel) (by decide +kernel) nk_RL_15 (by decide) gAg_nil (by decide +kernel)
  have A2 : gR (code, RL, 7, false) C 0 8 15 (nwR C 13 gF_13 170 a0) := gR_new (ix := 16) (ix2 := 18) (p1 := 12) gNf_13 ⟨_, _, rfl⟩ lw_cl16 (by decide +kernel) (by decide +kernel) nk_RL_18 (by decide) gAg_nil (by decide +kernel)
  have A3 : gR (code, RL, 7, false) C 0 16 19 (naR 2 (kI 1)) := gR_newa (p1 := 17) lw_al (gI_iconst (pc := 16) (v := 1) (by decide +kernel) (by decide)) (by decide +kernel)
  have L0 : gLR Γ 7 ws ls [none, none, none, none, none, none, none] := ⟨hsz, hwf, fun i v hv => by
    match i, hv with
    | 0, hv => cases hv
    | 1, hv => cases hv
    | 2, hv => cases hv
    | 3, hv => cases hv
    | 4, hv => cases hv
    | 5, hv => cases hv
    | 6, hv => cases hv
    | i + 7, hv => simp at hv⟩
  obtain ⟨g1, K1⟩ := A1 Γ ok [none, none, none, none, none, none, none] h _ h1 (e1 _)
  obtain ⟨g2, K2⟩ := A2 Γ ok (gSet 1 (vR (some X)) [none, none, none, none, none, none, none]) h1 _ h2 (e2 _)
  obtain ⟨g3, K3⟩ := A3 Γ ok (gSet 2 (vR (some M)) (gSet 1 (vR (some X)) [none, none, none, none, none, none, none])) h2 _ h3 (e3 _)
  refine K1 ws tys H locs ls [] hS L0 gCat0 (gRm.le (g2.tr g3) hm) fun ws1 tys1 H1 locs1 w1 hS1 hx1 hv1 => ?_
  have hv1b := hv1
  obtain ⟨x1, y1, rfl, hw1⟩ := hv1
  have S1 : ∀ ls' : Array Slot, lv_has ls' 7 ((1, Value.ref x1) :: (lvL ls 7).filter (fun q => !(q.1 == 1) && !(q.1 + 1 == 1 && q.2.category == 2))) → gW Γ H1 locs1 h1 (fun m => F0 m 8 ls' []) := by
    intro ls1 hl1
    have hL1 := gLR_st (L0.ext hx1) hv1b hl1
    have h01 := lc_keep0 hsz h0 (by decide) hl1
    refine K2 ws1 tys1 H1 locs1 ls1 [] hS1 hL1 gCat0 (gRm.le g3 hm) fun ws2 tys2 H2 locs2 w2 hS2 hx2 hv2 => ?_
    have hv2b := hv2
    obtain ⟨x2, y2, rfl, hw2⟩ := hv2
    have S2 : ∀ ls' : Array Slot, lv_has ls' 7 ((2, Value.ref x2) :: (lvL ls1 7).filter (fun q => !(q.1 == 2) && !(q.1 + 1 == 2 && q.2.category == 2))) → gW Γ H2 locs2 h2 (fun m => F0 m 16 ls' []) := by
      intro ls2 hl2
      have hL2 := gLR_st (hL1.ext hx2) hv2b hl2
      have h02 := lc_keep0 hL1.1 h01 (by decide) hl2
      refine K3 ws2 tys2 H2 locs2 ls2 [] hS2 hL2 gCat0 hm fun ws3 tys3 H3 locs3 w3 hS3 hx3 hv3 => ?_
      have hv3b := hv3
      obtain ⟨x3, y3, rfl, hw3⟩ := hv3
      have S3 : ∀ ls' : Array Slot, lv_has ls' 7 ((3, Value.ref x3) :: (lvL ls2 7).filter (fun q => !(q.1 == 3) && !(q.1 + 1 == 3 && q.2.category == 2))) → gW Γ H3 locs3 h3 (fun m => F0 m 20 ls' []) := by
        intro ls3 hl3
        have hL3 := gLR_st (hL2.ext hx3) hv3b hl3
        have h03 := lc_keep0 hL2.1 h02 (by decide) hl3
        have S4 : ∀ ls' : Array Slot, lv_has ls' 7 ((4, Value.int 0) :: (lvL ls3 7).filter (fun q => !(q.1 == 4) && !(q.1 + 1 == 4 && q.2.category == 2))) → gW Γ H3 locs3 h3 (fun m => F0 m 23 ls' []) := by
          intro ls4 hl4
          have hL4 := gLR_st (v := vI 0) hL3 ⟨0, rfl, rfl⟩ hl4
          exact kk ws3 tys3 H3 locs3 ls4 hS3 (lc_keep0 hL3.1 h03 (by decide) hl4) hL4
        obtain ⟨D, adK, adV, A, ⟨p, l, e, R, s, m0, args, below, meth, c, Q⟩, b, d⟩ := Γ
        obtain ⟨⟨hx, hb, hml, hown, hts⟩, -⟩ := ok
        refine lv_iconst (v := 0) hx hb (by decide +kernel : decode code 20 = .ok (.iconst 0, 1)) (by decide) ?_
        exact lv_istore hx hb (by decide +kernel : decode code 21 = .ok (.istore 4, 2)) (lvL_has hL3.1 hL3.2.1) (by decide) rfl S4
      obtain ⟨D, adK, adV, A, ⟨p, l, e, R, s, m0, args, below, meth, c, Q⟩, b, d⟩ := Γ
      obtain ⟨⟨hx, hb, hml, hown, hts⟩, -⟩ := ok
      exact lv_astore_n hx hb (by decide +kernel : decode code 19 = .ok (.astore_n 3, 1)) rfl (lvL_has hL2.1 hL2.2.1) (by decide) rfl S3
    obtain ⟨D, adK, adV, A, ⟨p, l, e, R, s, m0, args, below, meth, c, Q⟩, b, d⟩ := Γ
    obtain ⟨⟨hx, hb, hml, hown, hts⟩, -⟩ := ok
    exact lv_astore_n hx hb (by decide +kernel : decode code 15 = .ok (.astore_n 2, 1)) rfl (lvL_has hL1.1 hL1.2.1) (by decide) rfl S2
  obtain ⟨D, adK, adV, A, ⟨p, l, e, R, s, m0, args, below, meth, c, Q⟩, b, d⟩ := Γ
  obtain ⟨⟨hx, hb, hml, hown, hts⟩, -⟩ := ok
  exact lv_astore_n hx hb (by decide +kernel : decode code 7 = .ok (.astore_n 1, 1)) rfl (lvL_has hsz hwf) (by decide) rfl S1
