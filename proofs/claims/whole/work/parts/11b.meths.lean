def zTabL : List (Nat × List (Nat × Nat × Nat × Nat)) := [(58, [(0, 9, 12, 13)]), (89, [(0, 9, 12, 13)]), (102, [(0, 9, 12, 13)]), (107, [(0, 9, 12, 13)]), (111, [(0, 9, 12, 13)]), (115, [(0, 10, 13, 31), (0, 10, 17, 13)]), (118, [(0, 9, 12, 31)]), (120, [(0, 9, 12, 13)]), (122, [(0, 16, 19, 13)]), (124, [(0, 18, 21, 13)]), (126, [(0, 10, 13, 31), (0, 10, 17, 13)]), (128, [(0, 9, 12, 31)]), (130, [(0, 9, 12, 31)]), (132, [(0, 9, 12, 31)]), (134, [(0, 9, 12, 31)]), (136, [(0, 9, 12, 31)]), (138, [(0, 9, 12, 13), (0, 9, 15, 68)]), (152, [(0, 9, 12, 13), (0, 9, 15, 68)]), (155, [(0, 12, 15, 13)]), (158, [(0, 12, 15, 13)]), (160, [(0, 14, 17, 13)]), (162, [(0, 13, 16, 31), (0, 13, 20, 13)]), (168, [(0, 10, 13, 31), (0, 10, 17, 13)]), (170, [(0, 9, 12, 13)]), (172, [(0, 13, 16, 13)]), (175, [(0, 10, 13, 13)]), (177, [(0, 10, 13, 13)]), (182, [(0, 9, 12, 13)]), (185, [(0, 9, 12, 13)]), (187, [(0, 9, 12, 13)]), (193, [(0, 9, 12, 13)]), (196, [(0, 9, 12, 31), (0, 9, 16, 13)]), (198, [(0, 10, 13, 13)]), (202, [(0, 12, 15, 13)]), (204, [(0, 10, 13, 31)]), (208, [(0, 10, 13, 31), (0, 10, 17, 13)]), (211, [(0, 9, 12, 31)])]
def zTab (μ : Nat) : List (Nat × Nat × Nat × Nat) := (zTabL.lookup μ).getD []
/-- a method's words -/
def zMw (ν : Nat) : Prop := ((zMof ν).2.2.2.2.2 = true ∧ Cond.codeWith (zY ν) (zB ν) (zMof ν).2.2.1 (zRt ν) (zTab ν) ∈ lw_tbl ∨ (zMof ν).2.2.2.2.2 = false ∧ zTab ν = [] ∧ Cond.code (zY ν) (zB ν) (zMof ν).2.2.1 (zRt ν) ∈ lw_tbl) ∧
  ((zMof ν).2.2.2.1 = true ∧ Cond.static (zY ν) ∈ lw_tbl ∨ (zMof ν).2.2.2.1 = false ∧ Cond.instanceMethod (zY ν) ∈ lw_tbl ∧ ((zY ν).name = "<init>" ∨ Cond.selects (zOwn ν) (zY ν) (zY ν) ∈ lw_tbl)) ∧ Cond.initialized (zOwn ν) ∈ lw_tbl ∧ (zMof ν).2.2.1 ≤ 40 ∧ (zMof ν).1 < 14
set_option maxRecDepth 100000 in
theorem zmm_1 : zMw 1 := ⟨Or.inr ⟨rfl, rfl, zch0 (List.mem_of_getElem? (i := 30) rfl)⟩, Or.inr ⟨rfl, zch0 (List.mem_of_getElem? (i := 29) rfl), Or.inl rfl⟩, zch0 (List.mem_of_getElem? (i := 1) rfl), by decide, by decide⟩
set_option maxRecDepth 100000 in
theorem zmm_2 : zMw 2 := ⟨Or.inr ⟨rfl, rfl, zch0 (List.mem_of_getElem? (i := 38) rfl)⟩, Or.inr ⟨rfl, zch0 (List.mem_of_getElem? (i := 37) rfl), Or.inl rfl⟩, zch0 (List.mem_of_getElem? (i := 2) rfl), by decide, by decide⟩
set_option maxRecDepth 100000 in
theorem zmm_3 : zMw 3 := ⟨Or.inr ⟨rfl, rfl, zch0 (List.mem_of_getElem? (i := 69) rfl)⟩, Or.inr ⟨rfl, zch0 (List.mem_of_getElem? (i := 68) rfl), Or.inl rfl⟩, zch0 (List.mem_of_getElem? (i := 3) rfl), by decide, by decide⟩
set_option maxRecDepth 100000 in
theorem zmm_4 : zMw 4 := ⟨Or.inr ⟨rfl, rfl, zch0 (List.mem_of_getElem? (i := 119) rfl)⟩, Or.inr ⟨rfl, zch0 (List.mem_of_getElem? (i := 118) rfl), Or.inl rfl⟩, zch0 (List.mem_of_getElem? (i := 4) rfl), by decide, by decide⟩
set_option maxRecDepth 100000 in
theorem zmm_5 : zMw 5 := ⟨Or.inr ⟨rfl, rfl, zch0 (List.mem_of_getElem? (i := 163) rfl)⟩, Or.inr ⟨rfl, zch0 (List.mem_of_getElem? (i := 162) rfl), Or.inl rfl⟩, zch0 (List.mem_of_getElem? (i := 5) rfl), by decide, by decide⟩
set_option maxRecDepth 100000 in
theorem zmm_6 : zMw 6 := ⟨Or.inr ⟨rfl, rfl, zch0 (List.mem_of_getElem? (i := 176) rfl)⟩, Or.inr ⟨rfl, zch0 (List.mem_of_getElem? (i := 175) rfl), Or.inl rfl⟩, zch0 (List.mem_of_getElem? (i := 6) rfl), by decide, by decide⟩
set_option maxRecDepth 100000 in
theorem zmm_7 : zMw 7 := ⟨Or.inr ⟨rfl, rfl, zch0 (List.mem_of_getElem? (i := 191) rfl)⟩, Or.inr ⟨rfl, zch0 (List.mem_of_getElem? (i := 190) rfl), Or.inl rfl⟩, zch0 (List.mem_of_getElem? (i := 7) rfl), by decide, by decide⟩
set_option maxRecDepth 100000 in
theorem zmm_8 : zMw 8 := ⟨Or.inr ⟨rfl, rfl, zch0 (List.mem_of_getElem? (i := 199) rfl)⟩, Or.inr ⟨rfl, zch0 (List.mem_of_getElem? (i := 198) rfl), Or.inr (List.mem_append_left _ (List.mem_of_getElem? (i := 0) rfl))⟩, zch0 (List.mem_of_getElem? (i := 7) rfl), by decide, by decide⟩
set_option maxRecDepth 100000 in
theorem zmm_9 : zMw 9 := ⟨Or.inr ⟨rfl, rfl, zch0 (List.mem_of_getElem? (i := 202) rfl)⟩, Or.inl ⟨rfl, zch0 (List.mem_of_getElem? (i := 201) rfl)⟩, zch0 (List.mem_of_getElem? (i := 8) rfl), by decide, by decide⟩
set_option maxRecDepth 100000 in
theorem zmm_10 : zMw 10 := ⟨Or.inr ⟨rfl, rfl, zch1 (List.mem_of_getElem? (i := 17) rfl)⟩, Or.inr ⟨rfl, zch1 (List.mem_of_getElem? (i := 16) rfl), Or.inl rfl⟩, zch0 (List.mem_of_getElem? (i := 9) rfl), by decide, by decide⟩
set_option maxRecDepth 100000 in
theorem zmm_11 : zMw 11 := ⟨Or.inr ⟨rfl, rfl, zch1 (List.mem_of_getElem? (i := 22) rfl)⟩, Or.inr ⟨rfl, zch1 (List.mem_of_getElem? (i := 20) rfl), Or.inr (zch1 (List.mem_of_getElem? (i := 21) rfl))⟩, zch0 (List.mem_of_getElem? (i := 9) rfl), by decide, by decide⟩
set_option maxRecDepth 100000 in
theorem zmm_12 : zMw 12 := ⟨Or.inr ⟨rfl, rfl, zch1 (List.mem_of_getElem? (i := 40) rfl)⟩, Or.inr ⟨rfl, zch1 (List.mem_of_getElem? (i := 39) rfl), Or.inl rfl⟩, zch0 (List.mem_of_getElem? (i := 10) rfl), by decide, by decide⟩
set_option maxRecDepth 100000 in
theorem zmm_13 : zMw 13 := ⟨Or.inr ⟨rfl, rfl, zch1 (List.mem_of_getElem? (i := 75) rfl)⟩, Or.inr ⟨rfl, zch1 (List.mem_of_getElem? (i := 74) rfl), Or.inl rfl⟩, zch0 (List.mem_of_getElem? (i := 11) rfl), by decide, by decide⟩
set_option maxRecDepth 100000 in
theorem zmm_14 : zMw 14 := ⟨Or.inr ⟨rfl, rfl, zch1 (List.mem_of_getElem? (i := 144) rfl)⟩, Or.inr ⟨rfl, zch1 (List.mem_of_getElem? (i := 142) rfl), Or.inr (zch1 (List.mem_of_getElem? (i := 143) rfl))⟩, zch0 (List.mem_of_getElem? (i := 1) rfl), by decide, by decide⟩
set_option maxRecDepth 100000 in
theorem zmm_15 : zMw 15 := ⟨Or.inr ⟨rfl, rfl, zch1 (List.mem_of_getElem? (i := 148) rfl)⟩, Or.inr ⟨rfl, zch1 (List.mem_of_getElem? (i := 146) rfl), Or.inr (zch1 (List.mem_of_getElem? (i := 147) rfl))⟩, zch0 (List.mem_of_getElem? (i := 2) rfl), by decide, by decide⟩
set_option maxRecDepth 100000 in
theorem zmm_16 : zMw 16 := ⟨Or.inr ⟨rfl, rfl, zch1 (List.mem_of_getElem? (i := 152) rfl)⟩, Or.inr ⟨rfl, zch1 (List.mem_of_getElem? (i := 150) rfl), Or.inr (zch1 (List.mem_of_getElem? (i := 151) rfl))⟩, zch0 (List.mem_of_getElem? (i := 2) rfl), by decide, by decide⟩
set_option maxRecDepth 100000 in
theorem zmm_17 : zMw 17 := ⟨Or.inr ⟨rfl, rfl, zch1 (List.mem_of_getElem? (i := 156) rfl)⟩, Or.inr ⟨rfl, zch1 (List.mem_of_getElem? (i := 154) rfl), Or.inr (zch1 (List.mem_of_getElem? (i := 155) rfl))⟩, zch0 (List.mem_of_getElem? (i := 1) rfl), by decide, by decide⟩
set_option maxRecDepth 100000 in
theorem zmm_18 : zMw 18 := ⟨Or.inr ⟨rfl, rfl, zch1 (List.mem_of_getElem? (i := 160) rfl)⟩, Or.inr ⟨rfl, zch1 (List.mem_of_getElem? (i := 158) rfl), Or.inr (zch1 (List.mem_of_getElem? (i := 159) rfl))⟩, zch0 (List.mem_of_getElem? (i := 1) rfl), by decide, by decide⟩
set_option maxRecDepth 100000 in
theorem zmm_19 : zMw 19 := ⟨Or.inr ⟨rfl, rfl, zch1 (List.mem_of_getElem? (i := 164) rfl)⟩, Or.inr ⟨rfl, zch1 (List.mem_of_getElem? (i := 163) rfl), Or.inr (List.mem_append_left _ (List.mem_of_getElem? (i := 1) rfl))⟩, zch0 (List.mem_of_getElem? (i := 1) rfl), by decide, by decide⟩
set_option maxRecDepth 100000 in
theorem zmm_20 : zMw 20 := ⟨Or.inr ⟨rfl, rfl, zch1 (List.mem_of_getElem? (i := 168) rfl)⟩, Or.inr ⟨rfl, zch1 (List.mem_of_getElem? (i := 166) rfl), Or.inr (zch1 (List.mem_of_getElem? (i := 167) rfl))⟩, zch0 (List.mem_of_getElem? (i := 3) rfl), by decide, by decide⟩
set_option maxRecDepth 100000 in
theorem zmm_21 : zMw 21 := ⟨Or.inr ⟨rfl, rfl, zch1 (List.mem_of_getElem? (i := 172) rfl)⟩, Or.inr ⟨rfl, zch1 (List.mem_of_getElem? (i := 170) rfl), Or.inr (zch1 (List.mem_of_getElem? (i := 171) rfl))⟩, zch0 (List.mem_of_getElem? (i := 3) rfl), by decide, by decide⟩
set_option maxRecDepth 100000 in
theorem zmm_22 : zMw 22 := ⟨Or.inr ⟨rfl, rfl, zch1 (List.mem_of_getElem? (i := 177) rfl)⟩, Or.inr ⟨rfl, zch1 (List.mem_of_getElem? (i := 175) rfl), Or.inr (zch1 (List.mem_of_getElem? (i := 176) rfl))⟩, zch0 (List.mem_of_getElem? (i := 7) rfl), by decide, by decide⟩
set_option maxRecDepth 100000 in
theorem zmm_23 : zMw 23 := ⟨Or.inr ⟨rfl, rfl, zch1 (List.mem_of_getElem? (i := 181) rfl)⟩, Or.inr ⟨rfl, zch1 (List.mem_of_getElem? (i := 180) rfl), Or.inr (List.mem_append_left _ (List.mem_of_getElem? (i := 2) rfl))⟩, zch0 (List.mem_of_getElem? (i := 7) rfl), by decide, by decide⟩
set_option maxRecDepth 100000 in
theorem zmm_24 : zMw 24 := ⟨Or.inr ⟨rfl, rfl, zch1 (List.mem_of_getElem? (i := 184) rfl)⟩, Or.inl ⟨rfl, zch1 (List.mem_of_getElem? (i := 183) rfl)⟩, zch0 (List.mem_of_getElem? (i := 23) rfl), by decide, by decide⟩
set_option maxRecDepth 100000 in
theorem zmm_25 : zMw 25 := ⟨Or.inr ⟨rfl, rfl, zch1 (List.mem_of_getElem? (i := 191) rfl)⟩, Or.inr ⟨rfl, zch1 (List.mem_of_getElem? (i := 189) rfl), Or.inr (zch1 (List.mem_of_getElem? (i := 190) rfl))⟩, zch0 (List.mem_of_getElem? (i := 7) rfl), by decide, by decide⟩
set_option maxRecDepth 100000 in
theorem zmm_26 : zMw 26 := ⟨Or.inr ⟨rfl, rfl, zch1 (List.mem_of_getElem? (i := 195) rfl)⟩, Or.inr ⟨rfl, zch1 (List.mem_of_getElem? (i := 193) rfl), Or.inr (zch1 (List.mem_of_getElem? (i := 194) rfl))⟩, zch0 (List.mem_of_getElem? (i := 7) rfl), by decide, by decide⟩
set_option maxRecDepth 100000 in
theorem zmm_27 : zMw 27 := ⟨Or.inr ⟨rfl, rfl, zch1 (List.mem_of_getElem? (i := 202) rfl)⟩, Or.inr ⟨rfl, zch1 (List.mem_of_getElem? (i := 201) rfl), Or.inr (List.mem_append_left _ (List.mem_of_getElem? (i := 3) rfl))⟩, zch0 (List.mem_of_getElem? (i := 3) rfl), by decide, by decide⟩
set_option maxRecDepth 100000 in
theorem zmm_28 : zMw 28 := ⟨Or.inr ⟨rfl, rfl, zch1 (List.mem_of_getElem? (i := 206) rfl)⟩, Or.inr ⟨rfl, zch1 (List.mem_of_getElem? (i := 204) rfl), Or.inr (zch1 (List.mem_of_getElem? (i := 205) rfl))⟩, zch0 (List.mem_of_getElem? (i := 9) rfl), by decide, by decide⟩
set_option maxRecDepth 100000 in
theorem zmm_29 : zMw 29 := ⟨Or.inr ⟨rfl, rfl, zch1 (List.mem_of_getElem? (i := 210) rfl)⟩, Or.inr ⟨rfl, zch1 (List.mem_of_getElem? (i := 208) rfl), Or.inr (zch1 (List.mem_of_getElem? (i := 209) rfl))⟩, zch0 (List.mem_of_getElem? (i := 7) rfl), by decide, by decide⟩
set_option maxRecDepth 100000 in
theorem zmm_30 : zMw 30 := ⟨Or.inr ⟨rfl, rfl, zch1 (List.mem_of_getElem? (i := 214) rfl)⟩, Or.inr ⟨rfl, zch1 (List.mem_of_getElem? (i := 212) rfl), Or.inr (zch1 (List.mem_of_getElem? (i := 213) rfl))⟩, zch0 (List.mem_of_getElem? (i := 7) rfl), by decide, by decide⟩
set_option maxRecDepth 100000 in
theorem zmm_31 : zMw 31 := ⟨Or.inr ⟨rfl, rfl, zch1 (List.mem_of_getElem? (i := 222) rfl)⟩, Or.inr ⟨rfl, zch1 (List.mem_of_getElem? (i := 220) rfl), Or.inr (zch1 (List.mem_of_getElem? (i := 221) rfl))⟩, zch0 (List.mem_of_getElem? (i := 9) rfl), by decide, by decide⟩
set_option maxRecDepth 100000 in
theorem zmm_32 : zMw 32 := ⟨Or.inr ⟨rfl, rfl, zch1 (List.mem_of_getElem? (i := 226) rfl)⟩, Or.inr ⟨rfl, zch1 (List.mem_of_getElem? (i := 225) rfl), Or.inr (List.mem_append_left _ (List.mem_of_getElem? (i := 4) rfl))⟩, zch0 (List.mem_of_getElem? (i := 9) rfl), by decide, by decide⟩
set_option maxRecDepth 100000 in
theorem zmm_33 : zMw 33 := ⟨Or.inr ⟨rfl, rfl, zch1 (List.mem_of_getElem? (i := 229) rfl)⟩, Or.inl ⟨rfl, zch1 (List.mem_of_getElem? (i := 228) rfl)⟩, zch0 (List.mem_of_getElem? (i := 9) rfl), by decide, by decide⟩
set_option maxRecDepth 100000 in
theorem zmm_34 : zMw 34 := ⟨Or.inr ⟨rfl, rfl, zch1 (List.mem_of_getElem? (i := 235) rfl)⟩, Or.inr ⟨rfl, zch1 (List.mem_of_getElem? (i := 234) rfl), Or.inr (List.mem_append_left _ (List.mem_of_getElem? (i := 5) rfl))⟩, zch0 (List.mem_of_getElem? (i := 3) rfl), by decide, by decide⟩
set_option maxRecDepth 100000 in
theorem zmm_35 : zMw 35 := ⟨Or.inr ⟨rfl, rfl, zch2 (List.mem_of_getElem? (i := 2) rfl)⟩, Or.inr ⟨rfl, zch2 (List.mem_of_getElem? (i := 1) rfl), Or.inr (List.mem_append_left _ (List.mem_of_getElem? (i := 6) rfl))⟩, zch0 (List.mem_of_getElem? (i := 3) rfl), by decide, by decide⟩
set_option maxRecDepth 100000 in
theorem zmm_36 : zMw 36 := ⟨Or.inr ⟨rfl, rfl, zch2 (List.mem_of_getElem? (i := 6) rfl)⟩, Or.inr ⟨rfl, zch2 (List.mem_of_getElem? (i := 4) rfl), Or.inr (zch2 (List.mem_of_getElem? (i := 5) rfl))⟩, zch0 (List.mem_of_getElem? (i := 1) rfl), by decide, by decide⟩
set_option maxRecDepth 100000 in
theorem zmm_37 : zMw 37 := ⟨Or.inr ⟨rfl, rfl, zch2 (List.mem_of_getElem? (i := 10) rfl)⟩, Or.inr ⟨rfl, zch2 (List.mem_of_getElem? (i := 8) rfl), Or.inr (zch2 (List.mem_of_getElem? (i := 9) rfl))⟩, zch0 (List.mem_of_getElem? (i := 1) rfl), by decide, by decide⟩
set_option maxRecDepth 100000 in
theorem zmm_38 : zMw 38 := ⟨Or.inr ⟨rfl, rfl, zch2 (List.mem_of_getElem? (i := 14) rfl)⟩, Or.inr ⟨rfl, zch2 (List.mem_of_getElem? (i := 12) rfl), Or.inr (zch2 (List.mem_of_getElem? (i := 13) rfl))⟩, zch0 (List.mem_of_getElem? (i := 7) rfl), by decide, by decide⟩
set_option maxRecDepth 100000 in
theorem zmm_39 : zMw 39 := ⟨Or.inr ⟨rfl, rfl, zch2 (List.mem_of_getElem? (i := 18) rfl)⟩, Or.inr ⟨rfl, zch2 (List.mem_of_getElem? (i := 17) rfl), Or.inr (List.mem_append_left _ (List.mem_of_getElem? (i := 7) rfl))⟩, zch0 (List.mem_of_getElem? (i := 1) rfl), by decide, by decide⟩
set_option maxRecDepth 100000 in
theorem zmm_40 : zMw 40 := ⟨Or.inr ⟨rfl, rfl, zch2 (List.mem_of_getElem? (i := 22) rfl)⟩, Or.inr ⟨rfl, zch2 (List.mem_of_getElem? (i := 20) rfl), Or.inr (zch2 (List.mem_of_getElem? (i := 21) rfl))⟩, zch0 (List.mem_of_getElem? (i := 10) rfl), by decide, by decide⟩
set_option maxRecDepth 100000 in
theorem zmm_41 : zMw 41 := ⟨Or.inr ⟨rfl, rfl, zch2 (List.mem_of_getElem? (i := 26) rfl)⟩, Or.inr ⟨rfl, zch2 (List.mem_of_getElem? (i := 24) rfl), Or.inr (zch2 (List.mem_of_getElem? (i := 25) rfl))⟩, zch0 (List.mem_of_getElem? (i := 3) rfl), by decide, by decide⟩
set_option maxRecDepth 100000 in
theorem zmm_42 : zMw 42 := ⟨Or.inr ⟨rfl, rfl, zch2 (List.mem_of_getElem? (i := 30) rfl)⟩, Or.inr ⟨rfl, zch2 (List.mem_of_getElem? (i := 28) rfl), Or.inr (zch2 (List.mem_of_getElem? (i := 29) rfl))⟩, zch0 (List.mem_of_getElem? (i := 1) rfl), by decide, by decide⟩
set_option maxRecDepth 100000 in
theorem zmm_43 : zMw 43 := ⟨Or.inr ⟨rfl, rfl, zch2 (List.mem_of_getElem? (i := 34) rfl)⟩, Or.inr ⟨rfl, zch2 (List.mem_of_getElem? (i := 32) rfl), Or.inr (zch2 (List.mem_of_getElem? (i := 33) rfl))⟩, zch0 (List.mem_of_getElem? (i := 7) rfl), by decide, by decide⟩
set_option maxRecDepth 100000 in
theorem zmm_44 : zMw 44 := ⟨Or.inr ⟨rfl, rfl, zch2 (List.mem_of_getElem? (i := 38) rfl)⟩, Or.inr ⟨rfl, zch2 (List.mem_of_getElem? (i := 36) rfl), Or.inr (zch2 (List.mem_of_getElem? (i := 37) rfl))⟩, zch0 (List.mem_of_getElem? (i := 11) rfl), by decide, by decide⟩
set_option maxRecDepth 100000 in
theorem zmm_45 : zMw 45 := ⟨Or.inr ⟨rfl, rfl, zch2 (List.mem_of_getElem? (i := 42) rfl)⟩, Or.inr ⟨rfl, zch2 (List.mem_of_getElem? (i := 40) rfl), Or.inr (zch2 (List.mem_of_getElem? (i := 41) rfl))⟩, zch0 (List.mem_of_getElem? (i := 11) rfl), by decide, by decide⟩
set_option maxRecDepth 100000 in
theorem zmm_46 : zMw 46 := ⟨Or.inr ⟨rfl, rfl, zch2 (List.mem_of_getElem? (i := 45) rfl)⟩, Or.inl ⟨rfl, zch2 (List.mem_of_getElem? (i := 44) rfl)⟩, zch0 (List.mem_of_getElem? (i := 11) rfl), by decide, by decide⟩
set_option maxRecDepth 100000 in
theorem zmm_47 : zMw 47 := ⟨Or.inr ⟨rfl, rfl, zch2 (List.mem_of_getElem? (i := 49) rfl)⟩, Or.inr ⟨rfl, zch2 (List.mem_of_getElem? (i := 47) rfl), Or.inr (zch2 (List.mem_of_getElem? (i := 48) rfl))⟩, zch0 (List.mem_of_getElem? (i := 1) rfl), by decide, by decide⟩
set_option maxRecDepth 100000 in
theorem zmm_48 : zMw 48 := ⟨Or.inr ⟨rfl, rfl, zch2 (List.mem_of_getElem? (i := 54) rfl)⟩, Or.inr ⟨rfl, zch2 (List.mem_of_getElem? (i := 52) rfl), Or.inr (zch2 (List.mem_of_getElem? (i := 53) rfl))⟩, zch0 (List.mem_of_getElem? (i := 11) rfl), by decide, by decide⟩
set_option maxRecDepth 100000 in
theorem zmm_49 : zMw 49 := ⟨Or.inr ⟨rfl, rfl, zch2 (List.mem_of_getElem? (i := 61) rfl)⟩, Or.inr ⟨rfl, zch2 (List.mem_of_getElem? (i := 59) rfl), Or.inr (zch2 (List.mem_of_getElem? (i := 60) rfl))⟩, zch0 (List.mem_of_getElem? (i := 1) rfl), by decide, by decide⟩
set_option maxRecDepth 100000 in
theorem zmm_50 : zMw 50 := ⟨Or.inr ⟨rfl, rfl, zch2 (List.mem_of_getElem? (i := 65) rfl)⟩, Or.inr ⟨rfl, zch2 (List.mem_of_getElem? (i := 63) rfl), Or.inr (zch2 (List.mem_of_getElem? (i := 64) rfl))⟩, zch0 (List.mem_of_getElem? (i := 10) rfl), by decide, by decide⟩
set_option maxRecDepth 100000 in
theorem zmm_51 : zMw 51 := ⟨Or.inr ⟨rfl, rfl, zch2 (List.mem_of_getElem? (i := 69) rfl)⟩, Or.inr ⟨rfl, zch2 (List.mem_of_getElem? (i := 68) rfl), Or.inr (List.mem_append_left _ (List.mem_of_getElem? (i := 8) rfl))⟩, zch0 (List.mem_of_getElem? (i := 10) rfl), by decide, by decide⟩
set_option maxRecDepth 100000 in
theorem zmm_52 : zMw 52 := ⟨Or.inr ⟨rfl, rfl, zch2 (List.mem_of_getElem? (i := 73) rfl)⟩, Or.inr ⟨rfl, zch2 (List.mem_of_getElem? (i := 72) rfl), Or.inr (List.mem_append_left _ (List.mem_of_getElem? (i := 9) rfl))⟩, zch0 (List.mem_of_getElem? (i := 10) rfl), by decide, by decide⟩
set_option maxRecDepth 100000 in
theorem zmm_53 : zMw 53 := ⟨Or.inr ⟨rfl, rfl, zch2 (List.mem_of_getElem? (i := 77) rfl)⟩, Or.inr ⟨rfl, zch2 (List.mem_of_getElem? (i := 75) rfl), Or.inr (zch2 (List.mem_of_getElem? (i := 76) rfl))⟩, zch0 (List.mem_of_getElem? (i := 1) rfl), by decide, by decide⟩
set_option maxRecDepth 100000 in
theorem zmm_54 : zMw 54 := ⟨Or.inr ⟨rfl, rfl, zch2 (List.mem_of_getElem? (i := 81) rfl)⟩, Or.inr ⟨rfl, zch2 (List.mem_of_getElem? (i := 79) rfl), Or.inr (zch2 (List.mem_of_getElem? (i := 80) rfl))⟩, zch0 (List.mem_of_getElem? (i := 10) rfl), by decide, by decide⟩
set_option maxRecDepth 100000 in
theorem zmm_55 : zMw 55 := ⟨Or.inr ⟨rfl, rfl, zch2 (List.mem_of_getElem? (i := 88) rfl)⟩, Or.inr ⟨rfl, zch2 (List.mem_of_getElem? (i := 86) rfl), Or.inr (zch2 (List.mem_of_getElem? (i := 87) rfl))⟩, zch0 (List.mem_of_getElem? (i := 1) rfl), by decide, by decide⟩
set_option maxRecDepth 100000 in
theorem zmm_56 : zMw 56 := ⟨Or.inr ⟨rfl, rfl, zch2 (List.mem_of_getElem? (i := 92) rfl)⟩, Or.inr ⟨rfl, zch2 (List.mem_of_getElem? (i := 90) rfl), Or.inr (zch2 (List.mem_of_getElem? (i := 91) rfl))⟩, zch0 (List.mem_of_getElem? (i := 1) rfl), by decide, by decide⟩
set_option maxRecDepth 100000 in
theorem zmm_57 : zMw 57 := ⟨Or.inr ⟨rfl, rfl, zch2 (List.mem_of_getElem? (i := 96) rfl)⟩, Or.inr ⟨rfl, zch2 (List.mem_of_getElem? (i := 94) rfl), Or.inr (zch2 (List.mem_of_getElem? (i := 95) rfl))⟩, zch0 (List.mem_of_getElem? (i := 1) rfl), by decide, by decide⟩
set_option maxRecDepth 100000 in
theorem zmm_58 : zMw 58 := ⟨Or.inl ⟨rfl, zch2 (List.mem_of_getElem? (i := 99) rfl)⟩, Or.inl ⟨rfl, zch2 (List.mem_of_getElem? (i := 98) rfl)⟩, zch0 (List.mem_of_getElem? (i := 0) rfl), by decide, by decide⟩
set_option maxRecDepth 100000 in
theorem zmm_59 : zMw 59 := ⟨Or.inr ⟨rfl, rfl, zch2 (List.mem_of_getElem? (i := 104) rfl)⟩, Or.inr ⟨rfl, zch2 (List.mem_of_getElem? (i := 102) rfl), Or.inr (zch2 (List.mem_of_getElem? (i := 103) rfl))⟩, zch0 (List.mem_of_getElem? (i := 1) rfl), by decide, by decide⟩
set_option maxRecDepth 100000 in
theorem zmm_60 : zMw 60 := ⟨Or.inr ⟨rfl, rfl, zch2 (List.mem_of_getElem? (i := 108) rfl)⟩, Or.inr ⟨rfl, zch2 (List.mem_of_getElem? (i := 107) rfl), Or.inr (List.mem_append_left _ (List.mem_of_getElem? (i := 10) rfl))⟩, zch0 (List.mem_of_getElem? (i := 1) rfl), by decide, by decide⟩
set_option maxRecDepth 100000 in
theorem zmm_61 : zMw 61 := ⟨Or.inr ⟨rfl, rfl, zch2 (List.mem_of_getElem? (i := 113) rfl)⟩, Or.inr ⟨rfl, zch2 (List.mem_of_getElem? (i := 112) rfl), Or.inr (List.mem_append_left _ (List.mem_of_getElem? (i := 11) rfl))⟩, zch0 (List.mem_of_getElem? (i := 1) rfl), by decide, by decide⟩
set_option maxRecDepth 100000 in
theorem zmm_62 : zMw 62 := ⟨Or.inr ⟨rfl, rfl, zch2 (List.mem_of_getElem? (i := 117) rfl)⟩, Or.inr ⟨rfl, zch2 (List.mem_of_getElem? (i := 116) rfl), Or.inr (List.mem_append_left _ (List.mem_of_getElem? (i := 12) rfl))⟩, zch0 (List.mem_of_getElem? (i := 1) rfl), by decide, by decide⟩
set_option maxRecDepth 100000 in
theorem zmm_63 : zMw 63 := ⟨Or.inr ⟨rfl, rfl, zch2 (List.mem_of_getElem? (i := 188) rfl)⟩, Or.inr ⟨rfl, zch2 (List.mem_of_getElem? (i := 186) rfl), Or.inr (zch2 (List.mem_of_getElem? (i := 187) rfl))⟩, zch0 (List.mem_of_getElem? (i := 2) rfl), by decide, by decide⟩
set_option maxRecDepth 100000 in
theorem zmm_64 : zMw 64 := ⟨Or.inr ⟨rfl, rfl, zch2 (List.mem_of_getElem? (i := 192) rfl)⟩, Or.inr ⟨rfl, zch2 (List.mem_of_getElem? (i := 190) rfl), Or.inr (zch2 (List.mem_of_getElem? (i := 191) rfl))⟩, zch0 (List.mem_of_getElem? (i := 7) rfl), by decide, by decide⟩
set_option maxRecDepth 100000 in
theorem zmm_65 : zMw 65 := ⟨Or.inr ⟨rfl, rfl, zch2 (List.mem_of_getElem? (i := 196) rfl)⟩, Or.inr ⟨rfl, zch2 (List.mem_of_getElem? (i := 194) rfl), Or.inr (zch2 (List.mem_of_getElem? (i := 195) rfl))⟩, zch0 (List.mem_of_getElem? (i := 2) rfl), by decide, by decide⟩
set_option maxRecDepth 100000 in
theorem zmm_66 : zMw 66 := ⟨Or.inr ⟨rfl, rfl, zch2 (List.mem_of_getElem? (i := 200) rfl)⟩, Or.inr ⟨rfl, zch2 (List.mem_of_getElem? (i := 198) rfl), Or.inr (zch2 (List.mem_of_getElem? (i := 199) rfl))⟩, zch0 (List.mem_of_getElem? (i := 2) rfl), by decide, by decide⟩
set_option maxRecDepth 100000 in
theorem zmm_67 : zMw 67 := ⟨Or.inr ⟨rfl, rfl, zch2 (List.mem_of_getElem? (i := 204) rfl)⟩, Or.inr ⟨rfl, zch2 (List.mem_of_getElem? (i := 203) rfl), Or.inr (List.mem_append_left _ (List.mem_of_getElem? (i := 14) rfl))⟩, zch0 (List.mem_of_getElem? (i := 7) rfl), by decide, by decide⟩
set_option maxRecDepth 100000 in
theorem zmm_68 : zMw 68 := ⟨Or.inr ⟨rfl, rfl, zch2 (List.mem_of_getElem? (i := 208) rfl)⟩, Or.inr ⟨rfl, zch2 (List.mem_of_getElem? (i := 206) rfl), Or.inr (zch2 (List.mem_of_getElem? (i := 207) rfl))⟩, zch0 (List.mem_of_getElem? (i := 2) rfl), by decide, by decide⟩
set_option maxRecDepth 100000 in
theorem zmm_69 : zMw 69 := ⟨Or.inr ⟨rfl, rfl, zch2 (List.mem_of_getElem? (i := 211) rfl)⟩, Or.inl ⟨rfl, zch2 (List.mem_of_getElem? (i := 210) rfl)⟩, zch0 (List.mem_of_getElem? (i := 7) rfl), by decide, by decide⟩
set_option maxRecDepth 100000 in
theorem zmm_70 : zMw 70 := ⟨Or.inr ⟨rfl, rfl, zch2 (List.mem_of_getElem? (i := 216) rfl)⟩, Or.inr ⟨rfl, zch2 (List.mem_of_getElem? (i := 214) rfl), Or.inr (zch2 (List.mem_of_getElem? (i := 215) rfl))⟩, zch0 (List.mem_of_getElem? (i := 2) rfl), by decide, by decide⟩
set_option maxRecDepth 100000 in
theorem zmm_71 : zMw 71 := ⟨Or.inr ⟨rfl, rfl, zch3 (List.mem_of_getElem? (i := 39) rfl)⟩, Or.inr ⟨rfl, zch3 (List.mem_of_getElem? (i := 37) rfl), Or.inr (zch3 (List.mem_of_getElem? (i := 38) rfl))⟩, zch0 (List.mem_of_getElem? (i := 2) rfl), by decide, by decide⟩
set_option maxRecDepth 100000 in
theorem zmm_72 : zMw 72 := ⟨Or.inr ⟨rfl, rfl, zch3 (List.mem_of_getElem? (i := 43) rfl)⟩, Or.inr ⟨rfl, zch3 (List.mem_of_getElem? (i := 42) rfl), Or.inr (List.mem_append_left _ (List.mem_of_getElem? (i := 15) rfl))⟩, zch0 (List.mem_of_getElem? (i := 2) rfl), by decide, by decide⟩
set_option maxRecDepth 100000 in
theorem zmm_73 : zMw 73 := ⟨Or.inr ⟨rfl, rfl, zch3 (List.mem_of_getElem? (i := 47) rfl)⟩, Or.inr ⟨rfl, zch3 (List.mem_of_getElem? (i := 46) rfl), Or.inr (List.mem_append_left _ (List.mem_of_getElem? (i := 16) rfl))⟩, zch0 (List.mem_of_getElem? (i := 7) rfl), by decide, by decide⟩
set_option maxRecDepth 100000 in
theorem zmm_74 : zMw 74 := ⟨Or.inr ⟨rfl, rfl, zch3 (List.mem_of_getElem? (i := 51) rfl)⟩, Or.inr ⟨rfl, zch3 (List.mem_of_getElem? (i := 49) rfl), Or.inr (zch3 (List.mem_of_getElem? (i := 50) rfl))⟩, zch0 (List.mem_of_getElem? (i := 2) rfl), by decide, by decide⟩
set_option maxRecDepth 100000 in
theorem zmm_75 : zMw 75 := ⟨Or.inr ⟨rfl, rfl, zch3 (List.mem_of_getElem? (i := 54) rfl)⟩, Or.inl ⟨rfl, zch3 (List.mem_of_getElem? (i := 53) rfl)⟩, zch0 (List.mem_of_getElem? (i := 2) rfl), by decide, by decide⟩
set_option maxRecDepth 100000 in
theorem zmm_76 : zMw 76 := ⟨Or.inr ⟨rfl, rfl, zch3 (List.mem_of_getElem? (i := 58) rfl)⟩, Or.inr ⟨rfl, zch3 (List.mem_of_getElem? (i := 57) rfl), Or.inr (List.mem_append_left _ (List.mem_of_getElem? (i := 17) rfl))⟩, zch0 (List.mem_of_getElem? (i := 7) rfl), by decide, by decide⟩
set_option maxRecDepth 100000 in
theorem zmm_77 : zMw 77 := ⟨Or.inr ⟨rfl, rfl, zch3 (List.mem_of_getElem? (i := 63) rfl)⟩, Or.inr ⟨rfl, zch3 (List.mem_of_getElem? (i := 61) rfl), Or.inr (zch3 (List.mem_of_getElem? (i := 62) rfl))⟩, zch0 (List.mem_of_getElem? (i := 2) rfl), by decide, by decide⟩
set_option maxRecDepth 100000 in
theorem zmm_78 : zMw 78 := ⟨Or.inr ⟨rfl, rfl, zch3 (List.mem_of_getElem? (i := 67) rfl)⟩, Or.inr ⟨rfl, zch3 (List.mem_of_getElem? (i := 66) rfl), Or.inr (List.mem_append_left _ (List.mem_of_getElem? (i := 18) rfl))⟩, zch0 (List.mem_of_getElem? (i := 7) rfl), by decide, by decide⟩
set_option maxRecDepth 100000 in
theorem zmm_79 : zMw 79 := ⟨Or.inr ⟨rfl, rfl, zch3 (List.mem_of_getElem? (i := 71) rfl)⟩, Or.inr ⟨rfl, zch3 (List.mem_of_getElem? (i := 70) rfl), Or.inr (List.mem_append_left _ (List.mem_of_getElem? (i := 19) rfl))⟩, zch0 (List.mem_of_getElem? (i := 7) rfl), by decide, by decide⟩
set_option maxRecDepth 100000 in
theorem zmm_80 : zMw 80 := ⟨Or.inr ⟨rfl, rfl, zch3 (List.mem_of_getElem? (i := 75) rfl)⟩, Or.inr ⟨rfl, zch3 (List.mem_of_getElem? (i := 74) rfl), Or.inr (List.mem_append_left _ (List.mem_of_getElem? (i := 20) rfl))⟩, zch0 (List.mem_of_getElem? (i := 7) rfl), by decide, by decide⟩
set_option maxRecDepth 100000 in
theorem zmm_81 : zMw 81 := ⟨Or.inr ⟨rfl, rfl, zch3 (List.mem_of_getElem? (i := 79) rfl)⟩, Or.inr ⟨rfl, zch3 (List.mem_of_getElem? (i := 77) rfl), Or.inr (zch3 (List.mem_of_getElem? (i := 78) rfl))⟩, zch0 (List.mem_of_getElem? (i := 2) rfl), by decide, by decide⟩
set_option maxRecDepth 100000 in
theorem zmm_82 : zMw 82 := ⟨Or.inr ⟨rfl, rfl, zch3 (List.mem_of_getElem? (i := 83) rfl)⟩, Or.inr ⟨rfl, zch3 (List.mem_of_getElem? (i := 81) rfl), Or.inr (zch3 (List.mem_of_getElem? (i := 82) rfl))⟩, zch0 (List.mem_of_getElem? (i := 2) rfl), by decide, by decide⟩
set_option maxRecDepth 100000 in
theorem zmm_83 : zMw 83 := ⟨Or.inr ⟨rfl, rfl, zch3 (List.mem_of_getElem? (i := 87) rfl)⟩, Or.inr ⟨rfl, zch3 (List.mem_of_getElem? (i := 86) rfl), Or.inr (List.mem_append_left _ (List.mem_of_getElem? (i := 21) rfl))⟩, zch0 (List.mem_of_getElem? (i := 7) rfl), by decide, by decide⟩
set_option maxRecDepth 100000 in
theorem zmm_84 : zMw 84 := ⟨Or.inr ⟨rfl, rfl, zch3 (List.mem_of_getElem? (i := 91) rfl)⟩, Or.inr ⟨rfl, zch3 (List.mem_of_getElem? (i := 90) rfl), Or.inr (List.mem_append_left _ (List.mem_of_getElem? (i := 22) rfl))⟩, zch0 (List.mem_of_getElem? (i := 7) rfl), by decide, by decide⟩
set_option maxRecDepth 100000 in
theorem zmm_85 : zMw 85 := ⟨Or.inr ⟨rfl, rfl, zch3 (List.mem_of_getElem? (i := 96) rfl)⟩, Or.inr ⟨rfl, zch3 (List.mem_of_getElem? (i := 94) rfl), Or.inr (zch3 (List.mem_of_getElem? (i := 95) rfl))⟩, zch0 (List.mem_of_getElem? (i := 2) rfl), by decide, by decide⟩
set_option maxRecDepth 100000 in
theorem zmm_86 : zMw 86 := ⟨Or.inr ⟨rfl, rfl, zch3 (List.mem_of_getElem? (i := 101) rfl)⟩, Or.inr ⟨rfl, zch3 (List.mem_of_getElem? (i := 99) rfl), Or.inr (zch3 (List.mem_of_getElem? (i := 100) rfl))⟩, zch0 (List.mem_of_getElem? (i := 10) rfl), by decide, by decide⟩
set_option maxRecDepth 100000 in
theorem zmm_87 : zMw 87 := ⟨Or.inr ⟨rfl, rfl, zch3 (List.mem_of_getElem? (i := 105) rfl)⟩, Or.inr ⟨rfl, zch3 (List.mem_of_getElem? (i := 103) rfl), Or.inr (zch3 (List.mem_of_getElem? (i := 104) rfl))⟩, zch0 (List.mem_of_getElem? (i := 11) rfl), by decide, by decide⟩
set_option maxRecDepth 100000 in
theorem zmm_88 : zMw 88 := ⟨Or.inr ⟨rfl, rfl, zch3 (List.mem_of_getElem? (i := 110) rfl)⟩, Or.inr ⟨rfl, zch3 (List.mem_of_getElem? (i := 108) rfl), Or.inr (zch3 (List.mem_of_getElem? (i := 109) rfl))⟩, zch0 (List.mem_of_getElem? (i := 4) rfl), by decide, by decide⟩
set_option maxRecDepth 100000 in
theorem zmm_89 : zMw 89 := ⟨Or.inl ⟨rfl, zch3 (List.mem_of_getElem? (i := 113) rfl)⟩, Or.inl ⟨rfl, zch3 (List.mem_of_getElem? (i := 112) rfl)⟩, zch0 (List.mem_of_getElem? (i := 0) rfl), by decide, by decide⟩
set_option maxRecDepth 100000 in
theorem zmm_90 : zMw 90 := ⟨Or.inr ⟨rfl, rfl, zch3 (List.mem_of_getElem? (i := 117) rfl)⟩, Or.inr ⟨rfl, zch3 (List.mem_of_getElem? (i := 115) rfl), Or.inr (zch3 (List.mem_of_getElem? (i := 116) rfl))⟩, zch0 (List.mem_of_getElem? (i := 1) rfl), by decide, by decide⟩
set_option maxRecDepth 100000 in
theorem zmm_91 : zMw 91 := ⟨Or.inr ⟨rfl, rfl, zch3 (List.mem_of_getElem? (i := 121) rfl)⟩, Or.inr ⟨rfl, zch3 (List.mem_of_getElem? (i := 119) rfl), Or.inr (zch3 (List.mem_of_getElem? (i := 120) rfl))⟩, zch0 (List.mem_of_getElem? (i := 9) rfl), by decide, by decide⟩
set_option maxRecDepth 100000 in
theorem zmm_92 : zMw 92 := ⟨Or.inr ⟨rfl, rfl, zch3 (List.mem_of_getElem? (i := 125) rfl)⟩, Or.inr ⟨rfl, zch3 (List.mem_of_getElem? (i := 124) rfl), Or.inr (List.mem_append_left _ (List.mem_of_getElem? (i := 23) rfl))⟩, zch0 (List.mem_of_getElem? (i := 9) rfl), by decide, by decide⟩
set_option maxRecDepth 100000 in
theorem zmm_93 : zMw 93 := ⟨Or.inr ⟨rfl, rfl, zch3 (List.mem_of_getElem? (i := 129) rfl)⟩, Or.inr ⟨rfl, zch3 (List.mem_of_getElem? (i := 128) rfl), Or.inr (List.mem_append_left _ (List.mem_of_getElem? (i := 24) rfl))⟩, zch0 (List.mem_of_getElem? (i := 9) rfl), by decide, by decide⟩
set_option maxRecDepth 100000 in
theorem zmm_94 : zMw 94 := ⟨Or.inr ⟨rfl, rfl, zch3 (List.mem_of_getElem? (i := 133) rfl)⟩, Or.inr ⟨rfl, zch3 (List.mem_of_getElem? (i := 132) rfl), Or.inr (List.mem_append_left _ (List.mem_of_getElem? (i := 25) rfl))⟩, zch0 (List.mem_of_getElem? (i := 9) rfl), by decide, by decide⟩
set_option maxRecDepth 100000 in
theorem zmm_95 : zMw 95 := ⟨Or.inr ⟨rfl, rfl, zch3 (List.mem_of_getElem? (i := 137) rfl)⟩, Or.inr ⟨rfl, zch3 (List.mem_of_getElem? (i := 135) rfl), Or.inr (zch3 (List.mem_of_getElem? (i := 136) rfl))⟩, zch0 (List.mem_of_getElem? (i := 2) rfl), by decide, by decide⟩
set_option maxRecDepth 100000 in
theorem zmm_96 : zMw 96 := ⟨Or.inr ⟨rfl, rfl, zch3 (List.mem_of_getElem? (i := 142) rfl)⟩, Or.inr ⟨rfl, zch3 (List.mem_of_getElem? (i := 141) rfl), Or.inr (List.mem_append_left _ (List.mem_of_getElem? (i := 26) rfl))⟩, zch0 (List.mem_of_getElem? (i := 9) rfl), by decide, by decide⟩
set_option maxRecDepth 100000 in
theorem zmm_97 : zMw 97 := ⟨Or.inr ⟨rfl, rfl, zch3 (List.mem_of_getElem? (i := 147) rfl)⟩, Or.inr ⟨rfl, zch3 (List.mem_of_getElem? (i := 146) rfl), Or.inr (List.mem_append_left _ (List.mem_of_getElem? (i := 27) rfl))⟩, zch0 (List.mem_of_getElem? (i := 9) rfl), by decide, by decide⟩
set_option maxRecDepth 100000 in
theorem zmm_98 : zMw 98 := ⟨Or.inr ⟨rfl, rfl, zch3 (List.mem_of_getElem? (i := 151) rfl)⟩, Or.inr ⟨rfl, zch3 (List.mem_of_getElem? (i := 149) rfl), Or.inr (zch3 (List.mem_of_getElem? (i := 150) rfl))⟩, zch0 (List.mem_of_getElem? (i := 2) rfl), by decide, by decide⟩
set_option maxRecDepth 100000 in
theorem zmm_99 : zMw 99 := ⟨Or.inr ⟨rfl, rfl, zch3 (List.mem_of_getElem? (i := 157) rfl)⟩, Or.inr ⟨rfl, zch3 (List.mem_of_getElem? (i := 156) rfl), Or.inr (List.mem_append_left _ (List.mem_of_getElem? (i := 28) rfl))⟩, zch0 (List.mem_of_getElem? (i := 9) rfl), by decide, by decide⟩
set_option maxRecDepth 100000 in
theorem zmm_100 : zMw 100 := ⟨Or.inr ⟨rfl, rfl, zch3 (List.mem_of_getElem? (i := 164) rfl)⟩, Or.inr ⟨rfl, zch3 (List.mem_of_getElem? (i := 163) rfl), Or.inr (List.mem_append_left _ (List.mem_of_getElem? (i := 29) rfl))⟩, zch0 (List.mem_of_getElem? (i := 9) rfl), by decide, by decide⟩
set_option maxRecDepth 100000 in
theorem zmm_101 : zMw 101 := ⟨Or.inr ⟨rfl, rfl, zch3 (List.mem_of_getElem? (i := 170) rfl)⟩, Or.inl ⟨rfl, zch3 (List.mem_of_getElem? (i := 169) rfl)⟩, zch0 (List.mem_of_getElem? (i := 9) rfl), by decide, by decide⟩
set_option maxRecDepth 100000 in
theorem zmm_102 : zMw 102 := ⟨Or.inl ⟨rfl, zch3 (List.mem_of_getElem? (i := 180) rfl)⟩, Or.inl ⟨rfl, zch3 (List.mem_of_getElem? (i := 179) rfl)⟩, zch0 (List.mem_of_getElem? (i := 0) rfl), by decide, by decide⟩
set_option maxRecDepth 100000 in
theorem zmm_103 : zMw 103 := ⟨Or.inr ⟨rfl, rfl, zch3 (List.mem_of_getElem? (i := 184) rfl)⟩, Or.inr ⟨rfl, zch3 (List.mem_of_getElem? (i := 182) rfl), Or.inr (zch3 (List.mem_of_getElem? (i := 183) rfl))⟩, zch0 (List.mem_of_getElem? (i := 1) rfl), by decide, by decide⟩
set_option maxRecDepth 100000 in
theorem zmm_104 : zMw 104 := ⟨Or.inr ⟨rfl, rfl, zch3 (List.mem_of_getElem? (i := 188) rfl)⟩, Or.inr ⟨rfl, zch3 (List.mem_of_getElem? (i := 186) rfl), Or.inr (zch3 (List.mem_of_getElem? (i := 187) rfl))⟩, zch0 (List.mem_of_getElem? (i := 10) rfl), by decide, by decide⟩
set_option maxRecDepth 100000 in
theorem zmm_105 : zMw 105 := ⟨Or.inr ⟨rfl, rfl, zch3 (List.mem_of_getElem? (i := 194) rfl)⟩, Or.inr ⟨rfl, zch3 (List.mem_of_getElem? (i := 193) rfl), Or.inr (List.mem_append_left _ (List.mem_of_getElem? (i := 30) rfl))⟩, zch0 (List.mem_of_getElem? (i := 10) rfl), by decide, by decide⟩
set_option maxRecDepth 100000 in
theorem zmm_106 : zMw 106 := ⟨Or.inr ⟨rfl, rfl, zch3 (List.mem_of_getElem? (i := 202) rfl)⟩, Or.inl ⟨rfl, zch3 (List.mem_of_getElem? (i := 201) rfl)⟩, zch0 (List.mem_of_getElem? (i := 10) rfl), by decide, by decide⟩
set_option maxRecDepth 100000 in
theorem zmm_107 : zMw 107 := ⟨Or.inl ⟨rfl, zch3 (List.mem_of_getElem? (i := 208) rfl)⟩, Or.inl ⟨rfl, zch3 (List.mem_of_getElem? (i := 207) rfl)⟩, zch0 (List.mem_of_getElem? (i := 0) rfl), by decide, by decide⟩
set_option maxRecDepth 100000 in
theorem zmm_108 : zMw 108 := ⟨Or.inr ⟨rfl, rfl, zch3 (List.mem_of_getElem? (i := 212) rfl)⟩, Or.inr ⟨rfl, zch3 (List.mem_of_getElem? (i := 210) rfl), Or.inr (zch3 (List.mem_of_getElem? (i := 211) rfl))⟩, zch0 (List.mem_of_getElem? (i := 1) rfl), by decide, by decide⟩
set_option maxRecDepth 100000 in
theorem zmm_109 : zMw 109 := ⟨Or.inr ⟨rfl, rfl, zch3 (List.mem_of_getElem? (i := 216) rfl)⟩, Or.inr ⟨rfl, zch3 (List.mem_of_getElem? (i := 214) rfl), Or.inr (zch3 (List.mem_of_getElem? (i := 215) rfl))⟩, zch0 (List.mem_of_getElem? (i := 11) rfl), by decide, by decide⟩
set_option maxRecDepth 100000 in
theorem zmm_110 : zMw 110 := ⟨Or.inr ⟨rfl, rfl, zch3 (List.mem_of_getElem? (i := 222) rfl)⟩, Or.inr ⟨rfl, zch3 (List.mem_of_getElem? (i := 221) rfl), Or.inr (List.mem_append_left _ (List.mem_of_getElem? (i := 31) rfl))⟩, zch0 (List.mem_of_getElem? (i := 11) rfl), by decide, by decide⟩
set_option maxRecDepth 100000 in
theorem zmm_111 : zMw 111 := ⟨Or.inl ⟨rfl, zch3 (List.mem_of_getElem? (i := 229) rfl)⟩, Or.inl ⟨rfl, zch3 (List.mem_of_getElem? (i := 228) rfl)⟩, zch0 (List.mem_of_getElem? (i := 0) rfl), by decide, by decide⟩
set_option maxRecDepth 100000 in
theorem zmm_112 : zMw 112 := ⟨Or.inr ⟨rfl, rfl, zch3 (List.mem_of_getElem? (i := 233) rfl)⟩, Or.inr ⟨rfl, zch3 (List.mem_of_getElem? (i := 231) rfl), Or.inr (zch3 (List.mem_of_getElem? (i := 232) rfl))⟩, zch0 (List.mem_of_getElem? (i := 1) rfl), by decide, by decide⟩
set_option maxRecDepth 100000 in
theorem zmm_113 : zMw 113 := ⟨Or.inr ⟨rfl, rfl, zch3 (List.mem_of_getElem? (i := 238) rfl)⟩, Or.inr ⟨rfl, zch3 (List.mem_of_getElem? (i := 236) rfl), Or.inr (zch3 (List.mem_of_getElem? (i := 237) rfl))⟩, zch0 (List.mem_of_getElem? (i := 7) rfl), by decide, by decide⟩
set_option maxRecDepth 100000 in
theorem zmm_114 : zMw 114 := ⟨Or.inr ⟨rfl, rfl, zch4 (List.mem_of_getElem? (i := 2) rfl)⟩, Or.inr ⟨rfl, zch4 (List.mem_of_getElem? (i := 0) rfl), Or.inr (zch4 (List.mem_of_getElem? (i := 1) rfl))⟩, zch0 (List.mem_of_getElem? (i := 7) rfl), by decide, by decide⟩
set_option maxRecDepth 100000 in
theorem zmm_115 : zMw 115 := ⟨Or.inl ⟨rfl, zch4 (List.mem_of_getElem? (i := 5) rfl)⟩, Or.inl ⟨rfl, zch4 (List.mem_of_getElem? (i := 4) rfl)⟩, zch0 (List.mem_of_getElem? (i := 0) rfl), by decide, by decide⟩
set_option maxRecDepth 100000 in
theorem zmm_116 : zMw 116 := ⟨Or.inr ⟨rfl, rfl, zch4 (List.mem_of_getElem? (i := 10) rfl)⟩, Or.inr ⟨rfl, zch4 (List.mem_of_getElem? (i := 8) rfl), Or.inr (zch4 (List.mem_of_getElem? (i := 9) rfl))⟩, zch0 (List.mem_of_getElem? (i := 1) rfl), by decide, by decide⟩
set_option maxRecDepth 100000 in
theorem zmm_117 : zMw 117 := ⟨Or.inr ⟨rfl, rfl, zch4 (List.mem_of_getElem? (i := 14) rfl)⟩, Or.inr ⟨rfl, zch4 (List.mem_of_getElem? (i := 13) rfl), Or.inr (List.mem_append_left _ (List.mem_of_getElem? (i := 32) rfl))⟩, zch0 (List.mem_of_getElem? (i := 1) rfl), by decide, by decide⟩
set_option maxRecDepth 100000 in
theorem zmm_118 : zMw 118 := ⟨Or.inl ⟨rfl, zch4 (List.mem_of_getElem? (i := 33) rfl)⟩, Or.inl ⟨rfl, zch4 (List.mem_of_getElem? (i := 32) rfl)⟩, zch0 (List.mem_of_getElem? (i := 0) rfl), by decide, by decide⟩
set_option maxRecDepth 100000 in
theorem zmm_119 : zMw 119 := ⟨Or.inr ⟨rfl, rfl, zch4 (List.mem_of_getElem? (i := 37) rfl)⟩, Or.inr ⟨rfl, zch4 (List.mem_of_getElem? (i := 35) rfl), Or.inr (zch4 (List.mem_of_getElem? (i := 36) rfl))⟩, zch0 (List.mem_of_getElem? (i := 1) rfl), by decide, by decide⟩
set_option maxRecDepth 100000 in
theorem zmm_120 : zMw 120 := ⟨Or.inl ⟨rfl, zch4 (List.mem_of_getElem? (i := 40) rfl)⟩, Or.inl ⟨rfl, zch4 (List.mem_of_getElem? (i := 39) rfl)⟩, zch0 (List.mem_of_getElem? (i := 0) rfl), by decide, by decide⟩
set_option maxRecDepth 100000 in
theorem zmm_121 : zMw 121 := ⟨Or.inr ⟨rfl, rfl, zch4 (List.mem_of_getElem? (i := 44) rfl)⟩, Or.inr ⟨rfl, zch4 (List.mem_of_getElem? (i := 42) rfl), Or.inr (zch4 (List.mem_of_getElem? (i := 43) rfl))⟩, zch0 (List.mem_of_getElem? (i := 1) rfl), by decide, by decide⟩
set_option maxRecDepth 100000 in
theorem zmm_122 : zMw 122 := ⟨Or.inl ⟨rfl, zch4 (List.mem_of_getElem? (i := 47) rfl)⟩, Or.inl ⟨rfl, zch4 (List.mem_of_getElem? (i := 46) rfl)⟩, zch0 (List.mem_of_getElem? (i := 0) rfl), by decide, by decide⟩
set_option maxRecDepth 100000 in
theorem zmm_123 : zMw 123 := ⟨Or.inr ⟨rfl, rfl, zch4 (List.mem_of_getElem? (i := 51) rfl)⟩, Or.inr ⟨rfl, zch4 (List.mem_of_getElem? (i := 49) rfl), Or.inr (zch4 (List.mem_of_getElem? (i := 50) rfl))⟩, zch0 (List.mem_of_getElem? (i := 1) rfl), by decide, by decide⟩
set_option maxRecDepth 100000 in
theorem zmm_124 : zMw 124 := ⟨Or.inl ⟨rfl, zch4 (List.mem_of_getElem? (i := 55) rfl)⟩, Or.inl ⟨rfl, zch4 (List.mem_of_getElem? (i := 54) rfl)⟩, zch0 (List.mem_of_getElem? (i := 0) rfl), by decide, by decide⟩
set_option maxRecDepth 100000 in
theorem zmm_125 : zMw 125 := ⟨Or.inr ⟨rfl, rfl, zch4 (List.mem_of_getElem? (i := 59) rfl)⟩, Or.inr ⟨rfl, zch4 (List.mem_of_getElem? (i := 57) rfl), Or.inr (zch4 (List.mem_of_getElem? (i := 58) rfl))⟩, zch0 (List.mem_of_getElem? (i := 1) rfl), by decide, by decide⟩
set_option maxRecDepth 100000 in
theorem zmm_126 : zMw 126 := ⟨Or.inl ⟨rfl, zch4 (List.mem_of_getElem? (i := 63) rfl)⟩, Or.inl ⟨rfl, zch4 (List.mem_of_getElem? (i := 62) rfl)⟩, zch0 (List.mem_of_getElem? (i := 0) rfl), by decide, by decide⟩
set_option maxRecDepth 100000 in
theorem zmm_127 : zMw 127 := ⟨Or.inr ⟨rfl, rfl, zch4 (List.mem_of_getElem? (i := 67) rfl)⟩, Or.inr ⟨rfl, zch4 (List.mem_of_getElem? (i := 65) rfl), Or.inr (zch4 (List.mem_of_getElem? (i := 66) rfl))⟩, zch0 (List.mem_of_getElem? (i := 1) rfl), by decide, by decide⟩
set_option maxRecDepth 100000 in
theorem zmm_128 : zMw 128 := ⟨Or.inl ⟨rfl, zch4 (List.mem_of_getElem? (i := 70) rfl)⟩, Or.inl ⟨rfl, zch4 (List.mem_of_getElem? (i := 69) rfl)⟩, zch0 (List.mem_of_getElem? (i := 0) rfl), by decide, by decide⟩
set_option maxRecDepth 100000 in
theorem zmm_129 : zMw 129 := ⟨Or.inr ⟨rfl, rfl, zch4 (List.mem_of_getElem? (i := 74) rfl)⟩, Or.inr ⟨rfl, zch4 (List.mem_of_getElem? (i := 72) rfl), Or.inr (zch4 (List.mem_of_getElem? (i := 73) rfl))⟩, zch0 (List.mem_of_getElem? (i := 1) rfl), by decide, by decide⟩
set_option maxRecDepth 100000 in
theorem zmm_130 : zMw 130 := ⟨Or.inl ⟨rfl, zch4 (List.mem_of_getElem? (i := 77) rfl)⟩, Or.inl ⟨rfl, zch4 (List.mem_of_getElem? (i := 76) rfl)⟩, zch0 (List.mem_of_getElem? (i := 0) rfl), by decide, by decide⟩
set_option maxRecDepth 100000 in
theorem zmm_131 : zMw 131 := ⟨Or.inr ⟨rfl, rfl, zch4 (List.mem_of_getElem? (i := 81) rfl)⟩, Or.inr ⟨rfl, zch4 (List.mem_of_getElem? (i := 79) rfl), Or.inr (zch4 (List.mem_of_getElem? (i := 80) rfl))⟩, zch0 (List.mem_of_getElem? (i := 1) rfl), by decide, by decide⟩
set_option maxRecDepth 100000 in
theorem zmm_132 : zMw 132 := ⟨Or.inl ⟨rfl, zch4 (List.mem_of_getElem? (i := 84) rfl)⟩, Or.inl ⟨rfl, zch4 (List.mem_of_getElem? (i := 83) rfl)⟩, zch0 (List.mem_of_getElem? (i := 0) rfl), by decide, by decide⟩
set_option maxRecDepth 100000 in
theorem zmm_133 : zMw 133 := ⟨Or.inr ⟨rfl, rfl, zch4 (List.mem_of_getElem? (i := 88) rfl)⟩, Or.inr ⟨rfl, zch4 (List.mem_of_getElem? (i := 86) rfl), Or.inr (zch4 (List.mem_of_getElem? (i := 87) rfl))⟩, zch0 (List.mem_of_getElem? (i := 1) rfl), by decide, by decide⟩
set_option maxRecDepth 100000 in
theorem zmm_134 : zMw 134 := ⟨Or.inl ⟨rfl, zch4 (List.mem_of_getElem? (i := 91) rfl)⟩, Or.inl ⟨rfl, zch4 (List.mem_of_getElem? (i := 90) rfl)⟩, zch0 (List.mem_of_getElem? (i := 0) rfl), by decide, by decide⟩
set_option maxRecDepth 100000 in
theorem zmm_135 : zMw 135 := ⟨Or.inr ⟨rfl, rfl, zch4 (List.mem_of_getElem? (i := 95) rfl)⟩, Or.inr ⟨rfl, zch4 (List.mem_of_getElem? (i := 93) rfl), Or.inr (zch4 (List.mem_of_getElem? (i := 94) rfl))⟩, zch0 (List.mem_of_getElem? (i := 1) rfl), by decide, by decide⟩
set_option maxRecDepth 100000 in
theorem zmm_136 : zMw 136 := ⟨Or.inl ⟨rfl, zch4 (List.mem_of_getElem? (i := 98) rfl)⟩, Or.inl ⟨rfl, zch4 (List.mem_of_getElem? (i := 97) rfl)⟩, zch0 (List.mem_of_getElem? (i := 0) rfl), by decide, by decide⟩
set_option maxRecDepth 100000 in
theorem zmm_137 : zMw 137 := ⟨Or.inr ⟨rfl, rfl, zch4 (List.mem_of_getElem? (i := 102) rfl)⟩, Or.inr ⟨rfl, zch4 (List.mem_of_getElem? (i := 100) rfl), Or.inr (zch4 (List.mem_of_getElem? (i := 101) rfl))⟩, zch0 (List.mem_of_getElem? (i := 1) rfl), by decide, by decide⟩
set_option maxRecDepth 100000 in
theorem zmm_138 : zMw 138 := ⟨Or.inl ⟨rfl, zch4 (List.mem_of_getElem? (i := 105) rfl)⟩, Or.inl ⟨rfl, zch4 (List.mem_of_getElem? (i := 104) rfl)⟩, zch0 (List.mem_of_getElem? (i := 0) rfl), by decide, by decide⟩
set_option maxRecDepth 100000 in
theorem zmm_139 : zMw 139 := ⟨Or.inr ⟨rfl, rfl, zch4 (List.mem_of_getElem? (i := 110) rfl)⟩, Or.inr ⟨rfl, zch4 (List.mem_of_getElem? (i := 108) rfl), Or.inr (zch4 (List.mem_of_getElem? (i := 109) rfl))⟩, zch0 (List.mem_of_getElem? (i := 1) rfl), by decide, by decide⟩
set_option maxRecDepth 100000 in
theorem zmm_140 : zMw 140 := ⟨Or.inr ⟨rfl, rfl, zch4 (List.mem_of_getElem? (i := 114) rfl)⟩, Or.inr ⟨rfl, zch4 (List.mem_of_getElem? (i := 113) rfl), Or.inr (List.mem_append_left _ (List.mem_of_getElem? (i := 33) rfl))⟩, zch0 (List.mem_of_getElem? (i := 1) rfl), by decide, by decide⟩
set_option maxRecDepth 100000 in
theorem zmm_141 : zMw 141 := ⟨Or.inr ⟨rfl, rfl, zch4 (List.mem_of_getElem? (i := 134) rfl)⟩, Or.inr ⟨rfl, zch4 (List.mem_of_getElem? (i := 132) rfl), Or.inr (zch4 (List.mem_of_getElem? (i := 133) rfl))⟩, zch0 (List.mem_of_getElem? (i := 4) rfl), by decide, by decide⟩
set_option maxRecDepth 100000 in
theorem zmm_142 : zMw 142 := ⟨Or.inr ⟨rfl, rfl, zch4 (List.mem_of_getElem? (i := 140) rfl)⟩, Or.inr ⟨rfl, zch4 (List.mem_of_getElem? (i := 138) rfl), Or.inr (zch4 (List.mem_of_getElem? (i := 139) rfl))⟩, zch0 (List.mem_of_getElem? (i := 9) rfl), by decide, by decide⟩
set_option maxRecDepth 100000 in
theorem zmm_143 : zMw 143 := ⟨Or.inr ⟨rfl, rfl, zch4 (List.mem_of_getElem? (i := 144) rfl)⟩, Or.inr ⟨rfl, zch4 (List.mem_of_getElem? (i := 143) rfl), Or.inr (List.mem_append_left _ (List.mem_of_getElem? (i := 34) rfl))⟩, zch0 (List.mem_of_getElem? (i := 4) rfl), by decide, by decide⟩
set_option maxRecDepth 100000 in
theorem zmm_144 : zMw 144 := ⟨Or.inr ⟨rfl, rfl, zch4 (List.mem_of_getElem? (i := 149) rfl)⟩, Or.inr ⟨rfl, zch4 (List.mem_of_getElem? (i := 147) rfl), Or.inr (zch4 (List.mem_of_getElem? (i := 148) rfl))⟩, zch0 (List.mem_of_getElem? (i := 7) rfl), by decide, by decide⟩
set_option maxRecDepth 100000 in
theorem zmm_145 : zMw 145 := ⟨Or.inr ⟨rfl, rfl, zch4 (List.mem_of_getElem? (i := 153) rfl)⟩, Or.inr ⟨rfl, zch4 (List.mem_of_getElem? (i := 151) rfl), Or.inr (zch4 (List.mem_of_getElem? (i := 152) rfl))⟩, zch0 (List.mem_of_getElem? (i := 7) rfl), by decide, by decide⟩
set_option maxRecDepth 100000 in
theorem zmm_146 : zMw 146 := ⟨Or.inr ⟨rfl, rfl, zch4 (List.mem_of_getElem? (i := 157) rfl)⟩, Or.inr ⟨rfl, zch4 (List.mem_of_getElem? (i := 156) rfl), Or.inr (List.mem_append_left _ (List.mem_of_getElem? (i := 35) rfl))⟩, zch0 (List.mem_of_getElem? (i := 4) rfl), by decide, by decide⟩
set_option maxRecDepth 100000 in
theorem zmm_147 : zMw 147 := ⟨Or.inr ⟨rfl, rfl, zch4 (List.mem_of_getElem? (i := 161) rfl)⟩, Or.inr ⟨rfl, zch4 (List.mem_of_getElem? (i := 160) rfl), Or.inr (List.mem_append_left _ (List.mem_of_getElem? (i := 36) rfl))⟩, zch0 (List.mem_of_getElem? (i := 4) rfl), by decide, by decide⟩
set_option maxRecDepth 100000 in
theorem zmm_148 : zMw 148 := ⟨Or.inr ⟨rfl, rfl, zch4 (List.mem_of_getElem? (i := 165) rfl)⟩, Or.inr ⟨rfl, zch4 (List.mem_of_getElem? (i := 164) rfl), Or.inr (List.mem_append_left _ (List.mem_of_getElem? (i := 37) rfl))⟩, zch0 (List.mem_of_getElem? (i := 4) rfl), by decide, by decide⟩
set_option maxRecDepth 100000 in
theorem zmm_149 : zMw 149 := ⟨Or.inr ⟨rfl, rfl, zch4 (List.mem_of_getElem? (i := 169) rfl)⟩, Or.inr ⟨rfl, zch4 (List.mem_of_getElem? (i := 168) rfl), Or.inr (List.mem_append_left _ (List.mem_of_getElem? (i := 38) rfl))⟩, zch0 (List.mem_of_getElem? (i := 4) rfl), by decide, by decide⟩
set_option maxRecDepth 100000 in
theorem zmm_150 : zMw 150 := ⟨Or.inr ⟨rfl, rfl, zch4 (List.mem_of_getElem? (i := 173) rfl)⟩, Or.inr ⟨rfl, zch4 (List.mem_of_getElem? (i := 172) rfl), Or.inr (List.mem_append_left _ (List.mem_of_getElem? (i := 39) rfl))⟩, zch0 (List.mem_of_getElem? (i := 4) rfl), by decide, by decide⟩
set_option maxRecDepth 100000 in
theorem zmm_151 : zMw 151 := ⟨Or.inr ⟨rfl, rfl, zch4 (List.mem_of_getElem? (i := 182) rfl)⟩, Or.inr ⟨rfl, zch4 (List.mem_of_getElem? (i := 181) rfl), Or.inr (List.mem_append_left _ (List.mem_of_getElem? (i := 40) rfl))⟩, zch0 (List.mem_of_getElem? (i := 4) rfl), by decide, by decide⟩
set_option maxRecDepth 100000 in
theorem zmm_152 : zMw 152 := ⟨Or.inl ⟨rfl, zch4 (List.mem_of_getElem? (i := 185) rfl)⟩, Or.inl ⟨rfl, zch4 (List.mem_of_getElem? (i := 184) rfl)⟩, zch0 (List.mem_of_getElem? (i := 0) rfl), by decide, by decide⟩
set_option maxRecDepth 100000 in
theorem zmm_153 : zMw 153 := ⟨Or.inr ⟨rfl, rfl, zch4 (List.mem_of_getElem? (i := 189) rfl)⟩, Or.inr ⟨rfl, zch4 (List.mem_of_getElem? (i := 187) rfl), Or.inr (zch4 (List.mem_of_getElem? (i := 188) rfl))⟩, zch0 (List.mem_of_getElem? (i := 1) rfl), by decide, by decide⟩
set_option maxRecDepth 100000 in
theorem zmm_154 : zMw 154 := ⟨Or.inr ⟨rfl, rfl, zch4 (List.mem_of_getElem? (i := 193) rfl)⟩, Or.inr ⟨rfl, zch4 (List.mem_of_getElem? (i := 191) rfl), Or.inr (zch4 (List.mem_of_getElem? (i := 192) rfl))⟩, zch0 (List.mem_of_getElem? (i := 4) rfl), by decide, by decide⟩
set_option maxRecDepth 100000 in
theorem zmm_155 : zMw 155 := ⟨Or.inl ⟨rfl, zch4 (List.mem_of_getElem? (i := 196) rfl)⟩, Or.inl ⟨rfl, zch4 (List.mem_of_getElem? (i := 195) rfl)⟩, zch0 (List.mem_of_getElem? (i := 0) rfl), by decide, by decide⟩
set_option maxRecDepth 100000 in
theorem zmm_156 : zMw 156 := ⟨Or.inr ⟨rfl, rfl, zch4 (List.mem_of_getElem? (i := 200) rfl)⟩, Or.inr ⟨rfl, zch4 (List.mem_of_getElem? (i := 198) rfl), Or.inr (zch4 (List.mem_of_getElem? (i := 199) rfl))⟩, zch0 (List.mem_of_getElem? (i := 1) rfl), by decide, by decide⟩
set_option maxRecDepth 100000 in
theorem zmm_157 : zMw 157 := ⟨Or.inr ⟨rfl, rfl, zch4 (List.mem_of_getElem? (i := 204) rfl)⟩, Or.inr ⟨rfl, zch4 (List.mem_of_getElem? (i := 202) rfl), Or.inr (zch4 (List.mem_of_getElem? (i := 203) rfl))⟩, zch0 (List.mem_of_getElem? (i := 7) rfl), by decide, by decide⟩
set_option maxRecDepth 100000 in
theorem zmm_158 : zMw 158 := ⟨Or.inl ⟨rfl, zch4 (List.mem_of_getElem? (i := 208) rfl)⟩, Or.inl ⟨rfl, zch4 (List.mem_of_getElem? (i := 207) rfl)⟩, zch0 (List.mem_of_getElem? (i := 0) rfl), by decide, by decide⟩
set_option maxRecDepth 100000 in
theorem zmm_159 : zMw 159 := ⟨Or.inr ⟨rfl, rfl, zch4 (List.mem_of_getElem? (i := 212) rfl)⟩, Or.inr ⟨rfl, zch4 (List.mem_of_getElem? (i := 210) rfl), Or.inr (zch4 (List.mem_of_getElem? (i := 211) rfl))⟩, zch0 (List.mem_of_getElem? (i := 1) rfl), by decide, by decide⟩
set_option maxRecDepth 100000 in
theorem zmm_160 : zMw 160 := ⟨Or.inl ⟨rfl, zch4 (List.mem_of_getElem? (i := 216) rfl)⟩, Or.inl ⟨rfl, zch4 (List.mem_of_getElem? (i := 215) rfl)⟩, zch0 (List.mem_of_getElem? (i := 0) rfl), by decide, by decide⟩
set_option maxRecDepth 100000 in
theorem zmm_161 : zMw 161 := ⟨Or.inr ⟨rfl, rfl, zch4 (List.mem_of_getElem? (i := 220) rfl)⟩, Or.inr ⟨rfl, zch4 (List.mem_of_getElem? (i := 218) rfl), Or.inr (zch4 (List.mem_of_getElem? (i := 219) rfl))⟩, zch0 (List.mem_of_getElem? (i := 1) rfl), by decide, by decide⟩
set_option maxRecDepth 100000 in
theorem zmm_162 : zMw 162 := ⟨Or.inl ⟨rfl, zch4 (List.mem_of_getElem? (i := 227) rfl)⟩, Or.inl ⟨rfl, zch4 (List.mem_of_getElem? (i := 226) rfl)⟩, zch0 (List.mem_of_getElem? (i := 0) rfl), by decide, by decide⟩
set_option maxRecDepth 100000 in
theorem zmm_163 : zMw 163 := ⟨Or.inr ⟨rfl, rfl, zch4 (List.mem_of_getElem? (i := 231) rfl)⟩, Or.inr ⟨rfl, zch4 (List.mem_of_getElem? (i := 229) rfl), Or.inr (zch4 (List.mem_of_getElem? (i := 230) rfl))⟩, zch0 (List.mem_of_getElem? (i := 1) rfl), by decide, by decide⟩
set_option maxRecDepth 100000 in
theorem zmm_164 : zMw 164 := ⟨Or.inr ⟨rfl, rfl, zch4 (List.mem_of_getElem? (i := 234) rfl)⟩, Or.inl ⟨rfl, zch4 (List.mem_of_getElem? (i := 233) rfl)⟩, zch0 (List.mem_of_getElem? (i := 1) rfl), by decide, by decide⟩
set_option maxRecDepth 100000 in
theorem zmm_165 : zMw 165 := ⟨Or.inr ⟨rfl, rfl, zch4 (List.mem_of_getElem? (i := 238) rfl)⟩, Or.inr ⟨rfl, zch4 (List.mem_of_getElem? (i := 236) rfl), Or.inr (zch4 (List.mem_of_getElem? (i := 237) rfl))⟩, zch0 (List.mem_of_getElem? (i := 7) rfl), by decide, by decide⟩
set_option maxRecDepth 100000 in
theorem zmm_166 : zMw 166 := ⟨Or.inr ⟨rfl, rfl, zch5 (List.mem_of_getElem? (i := 1) rfl)⟩, Or.inl ⟨rfl, zch5 (List.mem_of_getElem? (i := 0) rfl)⟩, zch0 (List.mem_of_getElem? (i := 1) rfl), by decide, by decide⟩
set_option maxRecDepth 100000 in
theorem zmm_167 : zMw 167 := ⟨Or.inr ⟨rfl, rfl, zch5 (List.mem_of_getElem? (i := 4) rfl)⟩, Or.inl ⟨rfl, zch5 (List.mem_of_getElem? (i := 3) rfl)⟩, zch0 (List.mem_of_getElem? (i := 1) rfl), by decide, by decide⟩
set_option maxRecDepth 100000 in
theorem zmm_168 : zMw 168 := ⟨Or.inl ⟨rfl, zch5 (List.mem_of_getElem? (i := 7) rfl)⟩, Or.inl ⟨rfl, zch5 (List.mem_of_getElem? (i := 6) rfl)⟩, zch0 (List.mem_of_getElem? (i := 0) rfl), by decide, by decide⟩
set_option maxRecDepth 100000 in
theorem zmm_169 : zMw 169 := ⟨Or.inr ⟨rfl, rfl, zch5 (List.mem_of_getElem? (i := 11) rfl)⟩, Or.inr ⟨rfl, zch5 (List.mem_of_getElem? (i := 9) rfl), Or.inr (zch5 (List.mem_of_getElem? (i := 10) rfl))⟩, zch0 (List.mem_of_getElem? (i := 1) rfl), by decide, by decide⟩
set_option maxRecDepth 100000 in
theorem zmm_170 : zMw 170 := ⟨Or.inl ⟨rfl, zch5 (List.mem_of_getElem? (i := 15) rfl)⟩, Or.inl ⟨rfl, zch5 (List.mem_of_getElem? (i := 14) rfl)⟩, zch0 (List.mem_of_getElem? (i := 0) rfl), by decide, by decide⟩
set_option maxRecDepth 100000 in
theorem zmm_171 : zMw 171 := ⟨Or.inr ⟨rfl, rfl, zch5 (List.mem_of_getElem? (i := 19) rfl)⟩, Or.inr ⟨rfl, zch5 (List.mem_of_getElem? (i := 17) rfl), Or.inr (zch5 (List.mem_of_getElem? (i := 18) rfl))⟩, zch0 (List.mem_of_getElem? (i := 1) rfl), by decide, by decide⟩
set_option maxRecDepth 100000 in
theorem zmm_172 : zMw 172 := ⟨Or.inl ⟨rfl, zch5 (List.mem_of_getElem? (i := 22) rfl)⟩, Or.inl ⟨rfl, zch5 (List.mem_of_getElem? (i := 21) rfl)⟩, zch0 (List.mem_of_getElem? (i := 0) rfl), by decide, by decide⟩
set_option maxRecDepth 100000 in
theorem zmm_173 : zMw 173 := ⟨Or.inr ⟨rfl, rfl, zch5 (List.mem_of_getElem? (i := 26) rfl)⟩, Or.inr ⟨rfl, zch5 (List.mem_of_getElem? (i := 24) rfl), Or.inr (zch5 (List.mem_of_getElem? (i := 25) rfl))⟩, zch0 (List.mem_of_getElem? (i := 1) rfl), by decide, by decide⟩
set_option maxRecDepth 100000 in
theorem zmm_174 : zMw 174 := ⟨Or.inr ⟨rfl, rfl, zch5 (List.mem_of_getElem? (i := 30) rfl)⟩, Or.inr ⟨rfl, zch5 (List.mem_of_getElem? (i := 29) rfl), Or.inr (List.mem_append_left _ (List.mem_of_getElem? (i := 41) rfl))⟩, zch0 (List.mem_of_getElem? (i := 1) rfl), by decide, by decide⟩
set_option maxRecDepth 100000 in
theorem zmm_175 : zMw 175 := ⟨Or.inl ⟨rfl, zch5 (List.mem_of_getElem? (i := 34) rfl)⟩, Or.inl ⟨rfl, zch5 (List.mem_of_getElem? (i := 33) rfl)⟩, zch0 (List.mem_of_getElem? (i := 0) rfl), by decide, by decide⟩
set_option maxRecDepth 100000 in
theorem zmm_176 : zMw 176 := ⟨Or.inr ⟨rfl, rfl, zch5 (List.mem_of_getElem? (i := 38) rfl)⟩, Or.inr ⟨rfl, zch5 (List.mem_of_getElem? (i := 36) rfl), Or.inr (zch5 (List.mem_of_getElem? (i := 37) rfl))⟩, zch0 (List.mem_of_getElem? (i := 1) rfl), by decide, by decide⟩
set_option maxRecDepth 100000 in
theorem zmm_177 : zMw 177 := ⟨Or.inl ⟨rfl, zch5 (List.mem_of_getElem? (i := 42) rfl)⟩, Or.inl ⟨rfl, zch5 (List.mem_of_getElem? (i := 41) rfl)⟩, zch0 (List.mem_of_getElem? (i := 0) rfl), by decide, by decide⟩
set_option maxRecDepth 100000 in
theorem zmm_178 : zMw 178 := ⟨Or.inr ⟨rfl, rfl, zch5 (List.mem_of_getElem? (i := 46) rfl)⟩, Or.inr ⟨rfl, zch5 (List.mem_of_getElem? (i := 44) rfl), Or.inr (zch5 (List.mem_of_getElem? (i := 45) rfl))⟩, zch0 (List.mem_of_getElem? (i := 1) rfl), by decide, by decide⟩
set_option maxRecDepth 100000 in
theorem zmm_179 : zMw 179 := ⟨Or.inr ⟨rfl, rfl, zch5 (List.mem_of_getElem? (i := 50) rfl)⟩, Or.inr ⟨rfl, zch5 (List.mem_of_getElem? (i := 48) rfl), Or.inr (zch5 (List.mem_of_getElem? (i := 49) rfl))⟩, zch0 (List.mem_of_getElem? (i := 6) rfl), by decide, by decide⟩
set_option maxRecDepth 100000 in
theorem zmm_180 : zMw 180 := ⟨Or.inr ⟨rfl, rfl, zch5 (List.mem_of_getElem? (i := 55) rfl)⟩, Or.inr ⟨rfl, zch5 (List.mem_of_getElem? (i := 54) rfl), Or.inr (List.mem_append_left _ (List.mem_of_getElem? (i := 42) rfl))⟩, zch0 (List.mem_of_getElem? (i := 6) rfl), by decide, by decide⟩
set_option maxRecDepth 100000 in
theorem zmm_181 : zMw 181 := ⟨Or.inr ⟨rfl, rfl, zch5 (List.mem_of_getElem? (i := 59) rfl)⟩, Or.inl ⟨rfl, zch5 (List.mem_of_getElem? (i := 58) rfl)⟩, zch0 (List.mem_of_getElem? (i := 6) rfl), by decide, by decide⟩
set_option maxRecDepth 100000 in
theorem zmm_182 : zMw 182 := ⟨Or.inl ⟨rfl, zch5 (List.mem_of_getElem? (i := 65) rfl)⟩, Or.inl ⟨rfl, zch5 (List.mem_of_getElem? (i := 64) rfl)⟩, zch0 (List.mem_of_getElem? (i := 0) rfl), by decide, by decide⟩
set_option maxRecDepth 100000 in
theorem zmm_183 : zMw 183 := ⟨Or.inr ⟨rfl, rfl, zch5 (List.mem_of_getElem? (i := 69) rfl)⟩, Or.inr ⟨rfl, zch5 (List.mem_of_getElem? (i := 67) rfl), Or.inr (zch5 (List.mem_of_getElem? (i := 68) rfl))⟩, zch0 (List.mem_of_getElem? (i := 1) rfl), by decide, by decide⟩
set_option maxRecDepth 100000 in
theorem zmm_184 : zMw 184 := ⟨Or.inr ⟨rfl, rfl, zch5 (List.mem_of_getElem? (i := 72) rfl)⟩, Or.inl ⟨rfl, zch5 (List.mem_of_getElem? (i := 71) rfl)⟩, zch0 (List.mem_of_getElem? (i := 6) rfl), by decide, by decide⟩
set_option maxRecDepth 100000 in
theorem zmm_185 : zMw 185 := ⟨Or.inl ⟨rfl, zch5 (List.mem_of_getElem? (i := 77) rfl)⟩, Or.inl ⟨rfl, zch5 (List.mem_of_getElem? (i := 76) rfl)⟩, zch0 (List.mem_of_getElem? (i := 0) rfl), by decide, by decide⟩
set_option maxRecDepth 100000 in
theorem zmm_186 : zMw 186 := ⟨Or.inr ⟨rfl, rfl, zch5 (List.mem_of_getElem? (i := 81) rfl)⟩, Or.inr ⟨rfl, zch5 (List.mem_of_getElem? (i := 79) rfl), Or.inr (zch5 (List.mem_of_getElem? (i := 80) rfl))⟩, zch0 (List.mem_of_getElem? (i := 1) rfl), by decide, by decide⟩
set_option maxRecDepth 100000 in
theorem zmm_187 : zMw 187 := ⟨Or.inl ⟨rfl, zch5 (List.mem_of_getElem? (i := 84) rfl)⟩, Or.inl ⟨rfl, zch5 (List.mem_of_getElem? (i := 83) rfl)⟩, zch0 (List.mem_of_getElem? (i := 0) rfl), by decide, by decide⟩
set_option maxRecDepth 100000 in
theorem zmm_188 : zMw 188 := ⟨Or.inr ⟨rfl, rfl, zch5 (List.mem_of_getElem? (i := 88) rfl)⟩, Or.inr ⟨rfl, zch5 (List.mem_of_getElem? (i := 86) rfl), Or.inr (zch5 (List.mem_of_getElem? (i := 87) rfl))⟩, zch0 (List.mem_of_getElem? (i := 1) rfl), by decide, by decide⟩
set_option maxRecDepth 100000 in
theorem zmm_189 : zMw 189 := ⟨Or.inr ⟨rfl, rfl, zch5 (List.mem_of_getElem? (i := 92) rfl)⟩, Or.inr ⟨rfl, zch5 (List.mem_of_getElem? (i := 90) rfl), Or.inr (zch5 (List.mem_of_getElem? (i := 91) rfl))⟩, zch0 (List.mem_of_getElem? (i := 5) rfl), by decide, by decide⟩
set_option maxRecDepth 100000 in
theorem zmm_190 : zMw 190 := ⟨Or.inr ⟨rfl, rfl, zch5 (List.mem_of_getElem? (i := 96) rfl)⟩, Or.inr ⟨rfl, zch5 (List.mem_of_getElem? (i := 95) rfl), Or.inr (List.mem_append_left _ (List.mem_of_getElem? (i := 43) rfl))⟩, zch0 (List.mem_of_getElem? (i := 5) rfl), by decide, by decide⟩
set_option maxRecDepth 100000 in
theorem zmm_191 : zMw 191 := ⟨Or.inr ⟨rfl, rfl, zch5 (List.mem_of_getElem? (i := 102) rfl)⟩, Or.inr ⟨rfl, zch5 (List.mem_of_getElem? (i := 101) rfl), Or.inr (List.mem_append_left _ (List.mem_of_getElem? (i := 44) rfl))⟩, zch0 (List.mem_of_getElem? (i := 5) rfl), by decide, by decide⟩
set_option maxRecDepth 100000 in
theorem zmm_192 : zMw 192 := ⟨Or.inr ⟨rfl, rfl, zch5 (List.mem_of_getElem? (i := 107) rfl)⟩, Or.inl ⟨rfl, zch5 (List.mem_of_getElem? (i := 106) rfl)⟩, zch0 (List.mem_of_getElem? (i := 5) rfl), by decide, by decide⟩
set_option maxRecDepth 100000 in
theorem zmm_193 : zMw 193 := ⟨Or.inl ⟨rfl, zch5 (List.mem_of_getElem? (i := 110) rfl)⟩, Or.inl ⟨rfl, zch5 (List.mem_of_getElem? (i := 109) rfl)⟩, zch0 (List.mem_of_getElem? (i := 0) rfl), by decide, by decide⟩
set_option maxRecDepth 100000 in
theorem zmm_194 : zMw 194 := ⟨Or.inr ⟨rfl, rfl, zch5 (List.mem_of_getElem? (i := 114) rfl)⟩, Or.inr ⟨rfl, zch5 (List.mem_of_getElem? (i := 112) rfl), Or.inr (zch5 (List.mem_of_getElem? (i := 113) rfl))⟩, zch0 (List.mem_of_getElem? (i := 1) rfl), by decide, by decide⟩
set_option maxRecDepth 100000 in
theorem zmm_195 : zMw 195 := ⟨Or.inr ⟨rfl, rfl, zch5 (List.mem_of_getElem? (i := 118) rfl)⟩, Or.inr ⟨rfl, zch5 (List.mem_of_getElem? (i := 116) rfl), Or.inr (zch5 (List.mem_of_getElem? (i := 117) rfl))⟩, zch0 (List.mem_of_getElem? (i := 5) rfl), by decide, by decide⟩
set_option maxRecDepth 100000 in
theorem zmm_196 : zMw 196 := ⟨Or.inl ⟨rfl, zch5 (List.mem_of_getElem? (i := 121) rfl)⟩, Or.inl ⟨rfl, zch5 (List.mem_of_getElem? (i := 120) rfl)⟩, zch0 (List.mem_of_getElem? (i := 0) rfl), by decide, by decide⟩
set_option maxRecDepth 100000 in
theorem zmm_197 : zMw 197 := ⟨Or.inr ⟨rfl, rfl, zch5 (List.mem_of_getElem? (i := 125) rfl)⟩, Or.inr ⟨rfl, zch5 (List.mem_of_getElem? (i := 123) rfl), Or.inr (zch5 (List.mem_of_getElem? (i := 124) rfl))⟩, zch0 (List.mem_of_getElem? (i := 1) rfl), by decide, by decide⟩
set_option maxRecDepth 100000 in
theorem zmm_198 : zMw 198 := ⟨Or.inl ⟨rfl, zch5 (List.mem_of_getElem? (i := 128) rfl)⟩, Or.inl ⟨rfl, zch5 (List.mem_of_getElem? (i := 127) rfl)⟩, zch0 (List.mem_of_getElem? (i := 0) rfl), by decide, by decide⟩
set_option maxRecDepth 100000 in
theorem zmm_199 : zMw 199 := ⟨Or.inr ⟨rfl, rfl, zch5 (List.mem_of_getElem? (i := 132) rfl)⟩, Or.inr ⟨rfl, zch5 (List.mem_of_getElem? (i := 130) rfl), Or.inr (zch5 (List.mem_of_getElem? (i := 131) rfl))⟩, zch0 (List.mem_of_getElem? (i := 1) rfl), by decide, by decide⟩
set_option maxRecDepth 100000 in
theorem zmm_200 : zMw 200 := ⟨Or.inr ⟨rfl, rfl, zch5 (List.mem_of_getElem? (i := 136) rfl)⟩, Or.inr ⟨rfl, zch5 (List.mem_of_getElem? (i := 134) rfl), Or.inr (zch5 (List.mem_of_getElem? (i := 135) rfl))⟩, zch0 (List.mem_of_getElem? (i := 3) rfl), by decide, by decide⟩
set_option maxRecDepth 100000 in
theorem zmm_201 : zMw 201 := ⟨Or.inr ⟨rfl, rfl, zch5 (List.mem_of_getElem? (i := 140) rfl)⟩, Or.inr ⟨rfl, zch5 (List.mem_of_getElem? (i := 138) rfl), Or.inr (zch5 (List.mem_of_getElem? (i := 139) rfl))⟩, zch0 (List.mem_of_getElem? (i := 3) rfl), by decide, by decide⟩
set_option maxRecDepth 100000 in
theorem zmm_202 : zMw 202 := ⟨Or.inl ⟨rfl, zch5 (List.mem_of_getElem? (i := 143) rfl)⟩, Or.inl ⟨rfl, zch5 (List.mem_of_getElem? (i := 142) rfl)⟩, zch0 (List.mem_of_getElem? (i := 0) rfl), by decide, by decide⟩
set_option maxRecDepth 100000 in
theorem zmm_203 : zMw 203 := ⟨Or.inr ⟨rfl, rfl, zch5 (List.mem_of_getElem? (i := 147) rfl)⟩, Or.inr ⟨rfl, zch5 (List.mem_of_getElem? (i := 145) rfl), Or.inr (zch5 (List.mem_of_getElem? (i := 146) rfl))⟩, zch0 (List.mem_of_getElem? (i := 1) rfl), by decide, by decide⟩
set_option maxRecDepth 100000 in
theorem zmm_204 : zMw 204 := ⟨Or.inl ⟨rfl, zch5 (List.mem_of_getElem? (i := 151) rfl)⟩, Or.inl ⟨rfl, zch5 (List.mem_of_getElem? (i := 150) rfl)⟩, zch0 (List.mem_of_getElem? (i := 0) rfl), by decide, by decide⟩
set_option maxRecDepth 100000 in
theorem zmm_205 : zMw 205 := ⟨Or.inr ⟨rfl, rfl, zch5 (List.mem_of_getElem? (i := 155) rfl)⟩, Or.inr ⟨rfl, zch5 (List.mem_of_getElem? (i := 153) rfl), Or.inr (zch5 (List.mem_of_getElem? (i := 154) rfl))⟩, zch0 (List.mem_of_getElem? (i := 1) rfl), by decide, by decide⟩
set_option maxRecDepth 100000 in
theorem zmm_206 : zMw 206 := ⟨Or.inr ⟨rfl, rfl, zch5 (List.mem_of_getElem? (i := 159) rfl)⟩, Or.inr ⟨rfl, zch5 (List.mem_of_getElem? (i := 157) rfl), Or.inr (zch5 (List.mem_of_getElem? (i := 158) rfl))⟩, zch0 (List.mem_of_getElem? (i := 10) rfl), by decide, by decide⟩
set_option maxRecDepth 100000 in
theorem zmm_207 : zMw 207 := ⟨Or.inr ⟨rfl, rfl, zch5 (List.mem_of_getElem? (i := 163) rfl)⟩, Or.inr ⟨rfl, zch5 (List.mem_of_getElem? (i := 162) rfl), Or.inr (List.mem_append_left _ (List.mem_of_getElem? (i := 45) rfl))⟩, zch0 (List.mem_of_getElem? (i := 10) rfl), by decide, by decide⟩
set_option maxRecDepth 100000 in
theorem zmm_208 : zMw 208 := ⟨Or.inl ⟨rfl, zch5 (List.mem_of_getElem? (i := 166) rfl)⟩, Or.inl ⟨rfl, zch5 (List.mem_of_getElem? (i := 165) rfl)⟩, zch0 (List.mem_of_getElem? (i := 0) rfl), by decide, by decide⟩
set_option maxRecDepth 100000 in
theorem zmm_209 : zMw 209 := ⟨Or.inr ⟨rfl, rfl, zch5 (List.mem_of_getElem? (i := 170) rfl)⟩, Or.inr ⟨rfl, zch5 (List.mem_of_getElem? (i := 168) rfl), Or.inr (zch5 (List.mem_of_getElem? (i := 169) rfl))⟩, zch0 (List.mem_of_getElem? (i := 1) rfl), by decide, by decide⟩
set_option maxRecDepth 100000 in
theorem zmm_210 : zMw 210 := ⟨Or.inr ⟨rfl, rfl, zch5 (List.mem_of_getElem? (i := 174) rfl)⟩, Or.inr ⟨rfl, zch5 (List.mem_of_getElem? (i := 172) rfl), Or.inr (zch5 (List.mem_of_getElem? (i := 173) rfl))⟩, zch0 (List.mem_of_getElem? (i := 10) rfl), by decide, by decide⟩
set_option maxRecDepth 100000 in
theorem zmm_211 : zMw 211 := ⟨Or.inl ⟨rfl, zch5 (List.mem_of_getElem? (i := 177) rfl)⟩, Or.inl ⟨rfl, zch5 (List.mem_of_getElem? (i := 176) rfl)⟩, zch0 (List.mem_of_getElem? (i := 0) rfl), by decide, by decide⟩
set_option maxRecDepth 100000 in
theorem zmm_212 : zMw 212 := ⟨Or.inr ⟨rfl, rfl, zch5 (List.mem_of_getElem? (i := 181) rfl)⟩, Or.inr ⟨rfl, zch5 (List.mem_of_getElem? (i := 179) rfl), Or.inr (zch5 (List.mem_of_getElem? (i := 180) rfl))⟩, zch0 (List.mem_of_getElem? (i := 1) rfl), by decide, by decide⟩
set_option maxRecDepth 100000 in
theorem zmm_213 : zMw 213 := ⟨Or.inr ⟨rfl, rfl, zch5 (List.mem_of_getElem? (i := 185) rfl)⟩, Or.inr ⟨rfl, zch5 (List.mem_of_getElem? (i := 183) rfl), Or.inr (zch5 (List.mem_of_getElem? (i := 184) rfl))⟩, zch0 (List.mem_of_getElem? (i := 10) rfl), by decide, by decide⟩
set_option maxRecDepth 100000 in
theorem zmm_214 : zMw 214 := ⟨Or.inr ⟨rfl, rfl, zch5 (List.mem_of_getElem? (i := 189) rfl)⟩, Or.inr ⟨rfl, zch5 (List.mem_of_getElem? (i := 187) rfl), Or.inr (zch5 (List.mem_of_getElem? (i := 188) rfl))⟩, zch0 (List.mem_of_getElem? (i := 12) rfl), by decide, by decide⟩
set_option maxRecDepth 100000 in
theorem zmm_215 : zMw 215 := ⟨Or.inr ⟨rfl, rfl, zch5 (List.mem_of_getElem? (i := 194) rfl)⟩, Or.inr ⟨rfl, zch5 (List.mem_of_getElem? (i := 193) rfl), Or.inl rfl⟩, zch0 (List.mem_of_getElem? (i := 12) rfl), by decide, by decide⟩
set_option maxRecDepth 100000 in
theorem zmm_216 : zMw 216 := ⟨Or.inr ⟨rfl, rfl, zch5 (List.mem_of_getElem? (i := 199) rfl)⟩, Or.inr ⟨rfl, zch5 (List.mem_of_getElem? (i := 198) rfl), Or.inr (List.mem_append_left _ (List.mem_of_getElem? (i := 46) rfl))⟩, zch0 (List.mem_of_getElem? (i := 12) rfl), by decide, by decide⟩
set_option maxRecDepth 100000 in
theorem zmm_217 : zMw 217 := ⟨Or.inr ⟨rfl, rfl, zch5 (List.mem_of_getElem? (i := 203) rfl)⟩, Or.inr ⟨rfl, zch5 (List.mem_of_getElem? (i := 202) rfl), Or.inr (List.mem_append_left _ (List.mem_of_getElem? (i := 47) rfl))⟩, zch0 (List.mem_of_getElem? (i := 12) rfl), by decide, by decide⟩
set_option maxRecDepth 100000 in
theorem zmm_218 : zMw 218 := ⟨Or.inr ⟨rfl, rfl, zch5 (List.mem_of_getElem? (i := 207) rfl)⟩, Or.inr ⟨rfl, zch5 (List.mem_of_getElem? (i := 206) rfl), Or.inr (List.mem_append_left _ (List.mem_of_getElem? (i := 48) rfl))⟩, zch0 (List.mem_of_getElem? (i := 12) rfl), by decide, by decide⟩
set_option maxRecDepth 100000 in
theorem zmm_219 : zMw 219 := ⟨Or.inr ⟨rfl, rfl, zch6 (List.mem_of_getElem? (i := 192) rfl)⟩, Or.inr ⟨rfl, zch6 (List.mem_of_getElem? (i := 190) rfl), Or.inr (zch6 (List.mem_of_getElem? (i := 191) rfl))⟩, zch0 (List.mem_of_getElem? (i := 12) rfl), by decide, by decide⟩
set_option maxRecDepth 100000 in
theorem zmm_220 : zMw 220 := ⟨Or.inr ⟨rfl, rfl, zch6 (List.mem_of_getElem? (i := 196) rfl)⟩, Or.inr ⟨rfl, zch6 (List.mem_of_getElem? (i := 194) rfl), Or.inr (zch6 (List.mem_of_getElem? (i := 195) rfl))⟩, zch0 (List.mem_of_getElem? (i := 12) rfl), by decide, by decide⟩
set_option maxRecDepth 100000 in
theorem zmm_221 : zMw 221 := ⟨Or.inr ⟨rfl, rfl, zch6 (List.mem_of_getElem? (i := 200) rfl)⟩, Or.inr ⟨rfl, zch6 (List.mem_of_getElem? (i := 198) rfl), Or.inr (zch6 (List.mem_of_getElem? (i := 199) rfl))⟩, zch0 (List.mem_of_getElem? (i := 12) rfl), by decide, by decide⟩
set_option maxRecDepth 100000 in
theorem zmm_222 : zMw 222 := ⟨Or.inr ⟨rfl, rfl, zch6 (List.mem_of_getElem? (i := 204) rfl)⟩, Or.inr ⟨rfl, zch6 (List.mem_of_getElem? (i := 203) rfl), Or.inr (List.mem_append_left _ (List.mem_of_getElem? (i := 49) rfl))⟩, zch0 (List.mem_of_getElem? (i := 12) rfl), by decide, by decide⟩
set_option maxRecDepth 100000 in
theorem zmm_223 : zMw 223 := ⟨Or.inr ⟨rfl, rfl, zch6 (List.mem_of_getElem? (i := 208) rfl)⟩, Or.inr ⟨rfl, zch6 (List.mem_of_getElem? (i := 207) rfl), Or.inr (List.mem_append_left _ (List.mem_of_getElem? (i := 50) rfl))⟩, zch0 (List.mem_of_getElem? (i := 12) rfl), by decide, by decide⟩
set_option maxRecDepth 100000 in
theorem zmm_224 : zMw 224 := ⟨Or.inr ⟨rfl, rfl, zch6 (List.mem_of_getElem? (i := 212) rfl)⟩, Or.inr ⟨rfl, zch6 (List.mem_of_getElem? (i := 211) rfl), Or.inr (List.mem_append_left _ (List.mem_of_getElem? (i := 51) rfl))⟩, zch0 (List.mem_of_getElem? (i := 12) rfl), by decide, by decide⟩
set_option maxRecDepth 100000 in
theorem zmm_225 : zMw 225 := ⟨Or.inr ⟨rfl, rfl, zch6 (List.mem_of_getElem? (i := 216) rfl)⟩, Or.inr ⟨rfl, zch6 (List.mem_of_getElem? (i := 215) rfl), Or.inr (List.mem_append_left _ (List.mem_of_getElem? (i := 52) rfl))⟩, zch0 (List.mem_of_getElem? (i := 12) rfl), by decide, by decide⟩
set_option maxRecDepth 100000 in
theorem zmm_226 : zMw 226 := ⟨Or.inr ⟨rfl, rfl, zch6 (List.mem_of_getElem? (i := 220) rfl)⟩, Or.inr ⟨rfl, zch6 (List.mem_of_getElem? (i := 219) rfl), Or.inr (List.mem_append_left _ (List.mem_of_getElem? (i := 53) rfl))⟩, zch0 (List.mem_of_getElem? (i := 12) rfl), by decide, by decide⟩
set_option maxRecDepth 100000 in
theorem zmm_227 : zMw 227 := ⟨Or.inr ⟨rfl, rfl, zch6 (List.mem_of_getElem? (i := 224) rfl)⟩, Or.inr ⟨rfl, zch6 (List.mem_of_getElem? (i := 223) rfl), Or.inr (List.mem_append_left _ (List.mem_of_getElem? (i := 54) rfl))⟩, zch0 (List.mem_of_getElem? (i := 12) rfl), by decide, by decide⟩
set_option maxRecDepth 100000 in
theorem zmm_228 : zMw 228 := ⟨Or.inr ⟨rfl, rfl, zch6 (List.mem_of_getElem? (i := 227) rfl)⟩, Or.inl ⟨rfl, zch6 (List.mem_of_getElem? (i := 226) rfl)⟩, zch0 (List.mem_of_getElem? (i := 12) rfl), by decide, by decide⟩
set_option maxRecDepth 100000 in
theorem zmm_229 : zMw 229 := ⟨Or.inr ⟨rfl, rfl, zch6 (List.mem_of_getElem? (i := 230) rfl)⟩, Or.inl ⟨rfl, zch6 (List.mem_of_getElem? (i := 229) rfl)⟩, zch0 (List.mem_of_getElem? (i := 12) rfl), by decide, by decide⟩
set_option maxRecDepth 100000 in
theorem zmm_230 : zMw 230 := ⟨Or.inr ⟨rfl, rfl, zch6 (List.mem_of_getElem? (i := 234) rfl)⟩, Or.inl ⟨rfl, zch6 (List.mem_of_getElem? (i := 233) rfl)⟩, zch0 (List.mem_of_getElem? (i := 12) rfl), by decide, by decide⟩
set_option maxRecDepth 100000 in
theorem zmm_231 : zMw 231 := ⟨Or.inr ⟨rfl, rfl, zch7 (List.mem_of_getElem? (i := 3) rfl)⟩, Or.inl ⟨rfl, zch7 (List.mem_of_getElem? (i := 2) rfl)⟩, zch0 (List.mem_of_getElem? (i := 12) rfl), by decide, by decide⟩
set_option maxRecDepth 100000 in
theorem zmm_232 : zMw 232 := ⟨Or.inr ⟨rfl, rfl, zch7 (List.mem_of_getElem? (i := 14) rfl)⟩, Or.inr ⟨rfl, zch7 (List.mem_of_getElem? (i := 13) rfl), Or.inr (List.mem_append_left _ (List.mem_of_getElem? (i := 55) rfl))⟩, zch0 (List.mem_of_getElem? (i := 12) rfl), by decide, by decide⟩
set_option maxRecDepth 100000 in
theorem zmm_233 : zMw 233 := ⟨Or.inr ⟨rfl, rfl, zch7 (List.mem_of_getElem? (i := 18) rfl)⟩, Or.inr ⟨rfl, zch7 (List.mem_of_getElem? (i := 17) rfl), Or.inr (List.mem_append_left _ (List.mem_of_getElem? (i := 56) rfl))⟩, zch0 (List.mem_of_getElem? (i := 12) rfl), by decide, by decide⟩
set_option maxRecDepth 100000 in
theorem zmm_234 : zMw 234 := ⟨Or.inr ⟨rfl, rfl, zch7 (List.mem_of_getElem? (i := 22) rfl)⟩, Or.inr ⟨rfl, zch7 (List.mem_of_getElem? (i := 21) rfl), Or.inr (List.mem_append_left _ (List.mem_of_getElem? (i := 57) rfl))⟩, zch0 (List.mem_of_getElem? (i := 12) rfl), by decide, by decide⟩
set_option maxRecDepth 100000 in
theorem zmm_235 : zMw 235 := ⟨Or.inr ⟨rfl, rfl, zch7 (List.mem_of_getElem? (i := 26) rfl)⟩, Or.inr ⟨rfl, zch7 (List.mem_of_getElem? (i := 25) rfl), Or.inr (List.mem_append_left _ (List.mem_of_getElem? (i := 58) rfl))⟩, zch0 (List.mem_of_getElem? (i := 12) rfl), by decide, by decide⟩
set_option maxRecDepth 100000 in
theorem zmm_236 : zMw 236 := ⟨Or.inr ⟨rfl, rfl, zch7 (List.mem_of_getElem? (i := 30) rfl)⟩, Or.inr ⟨rfl, zch7 (List.mem_of_getElem? (i := 29) rfl), Or.inr (List.mem_append_left _ (List.mem_of_getElem? (i := 59) rfl))⟩, zch0 (List.mem_of_getElem? (i := 12) rfl), by decide, by decide⟩
set_option maxRecDepth 100000 in
theorem zmm_237 : zMw 237 := ⟨Or.inr ⟨rfl, rfl, zch7 (List.mem_of_getElem? (i := 33) rfl)⟩, Or.inl ⟨rfl, zch7 (List.mem_of_getElem? (i := 32) rfl)⟩, zch0 (List.mem_of_getElem? (i := 12) rfl), by decide, by decide⟩
set_option maxRecDepth 100000 in
theorem zmm_238 : zMw 238 := ⟨Or.inr ⟨rfl, rfl, zch7 (List.mem_of_getElem? (i := 37) rfl)⟩, Or.inr ⟨rfl, zch7 (List.mem_of_getElem? (i := 36) rfl), Or.inr (List.mem_append_left _ (List.mem_of_getElem? (i := 60) rfl))⟩, zch0 (List.mem_of_getElem? (i := 12) rfl), by decide, by decide⟩
set_option maxRecDepth 100000 in
theorem zmm_239 : zMw 239 := ⟨Or.inr ⟨rfl, rfl, zch7 (List.mem_of_getElem? (i := 41) rfl)⟩, Or.inr ⟨rfl, zch7 (List.mem_of_getElem? (i := 40) rfl), Or.inr (List.mem_append_left _ (List.mem_of_getElem? (i := 61) rfl))⟩, zch0 (List.mem_of_getElem? (i := 12) rfl), by decide, by decide⟩
set_option maxRecDepth 100000 in
theorem zmm_240 : zMw 240 := ⟨Or.inr ⟨rfl, rfl, zch7 (List.mem_of_getElem? (i := 45) rfl)⟩, Or.inr ⟨rfl, zch7 (List.mem_of_getElem? (i := 44) rfl), Or.inr (List.mem_append_left _ (List.mem_of_getElem? (i := 62) rfl))⟩, zch0 (List.mem_of_getElem? (i := 12) rfl), by decide, by decide⟩
set_option maxRecDepth 100000 in
theorem zmm_241 : zMw 241 := ⟨Or.inr ⟨rfl, rfl, zch7 (List.mem_of_getElem? (i := 49) rfl)⟩, Or.inr ⟨rfl, zch7 (List.mem_of_getElem? (i := 47) rfl), Or.inr (zch7 (List.mem_of_getElem? (i := 48) rfl))⟩, zch0 (List.mem_of_getElem? (i := 12) rfl), by decide, by decide⟩
set_option maxRecDepth 100000 in
theorem zmm_242 : zMw 242 := ⟨Or.inr ⟨rfl, rfl, zch7 (List.mem_of_getElem? (i := 53) rfl)⟩, Or.inr ⟨rfl, zch7 (List.mem_of_getElem? (i := 52) rfl), Or.inr (List.mem_append_left _ (List.mem_of_getElem? (i := 63) rfl))⟩, zch0 (List.mem_of_getElem? (i := 12) rfl), by decide, by decide⟩
set_option maxRecDepth 100000 in
theorem zmm_243 : zMw 243 := ⟨Or.inr ⟨rfl, rfl, zch7 (List.mem_of_getElem? (i := 57) rfl)⟩, Or.inr ⟨rfl, zch7 (List.mem_of_getElem? (i := 56) rfl), Or.inr (List.mem_append_left _ (List.mem_of_getElem? (i := 64) rfl))⟩, zch0 (List.mem_of_getElem? (i := 12) rfl), by decide, by decide⟩
set_option maxRecDepth 100000 in
theorem zmm_244 : zMw 244 := ⟨Or.inr ⟨rfl, rfl, zch7 (List.mem_of_getElem? (i := 61) rfl)⟩, Or.inr ⟨rfl, zch7 (List.mem_of_getElem? (i := 60) rfl), Or.inr (List.mem_append_left _ (List.mem_of_getElem? (i := 65) rfl))⟩, zch0 (List.mem_of_getElem? (i := 12) rfl), by decide, by decide⟩
set_option maxRecDepth 100000 in
theorem zmm_245 : zMw 245 := ⟨Or.inr ⟨rfl, rfl, zch7 (List.mem_of_getElem? (i := 65) rfl)⟩, Or.inr ⟨rfl, zch7 (List.mem_of_getElem? (i := 64) rfl), Or.inr (List.mem_append_left _ (List.mem_of_getElem? (i := 66) rfl))⟩, zch0 (List.mem_of_getElem? (i := 12) rfl), by decide, by decide⟩
set_option maxRecDepth 100000 in
theorem zmm_246 : zMw 246 := ⟨Or.inr ⟨rfl, rfl, zch7 (List.mem_of_getElem? (i := 69) rfl)⟩, Or.inr ⟨rfl, zch7 (List.mem_of_getElem? (i := 68) rfl), Or.inr (List.mem_append_left _ (List.mem_of_getElem? (i := 67) rfl))⟩, zch0 (List.mem_of_getElem? (i := 12) rfl), by decide, by decide⟩
set_option maxRecDepth 100000 in
theorem zmm_247 : zMw 247 := ⟨Or.inr ⟨rfl, rfl, zch7 (List.mem_of_getElem? (i := 74) rfl)⟩, Or.inr ⟨rfl, zch7 (List.mem_of_getElem? (i := 73) rfl), Or.inr (List.mem_append_left _ (List.mem_of_getElem? (i := 68) rfl))⟩, zch0 (List.mem_of_getElem? (i := 12) rfl), by decide, by decide⟩
set_option maxRecDepth 100000 in
theorem zmm_248 : zMw 248 := ⟨Or.inr ⟨rfl, rfl, zch7 (List.mem_of_getElem? (i := 79) rfl)⟩, Or.inr ⟨rfl, zch7 (List.mem_of_getElem? (i := 78) rfl), Or.inr (List.mem_append_left _ (List.mem_of_getElem? (i := 69) rfl))⟩, zch0 (List.mem_of_getElem? (i := 12) rfl), by decide, by decide⟩
set_option maxRecDepth 100000 in
theorem zmm_249 : zMw 249 := ⟨Or.inr ⟨rfl, rfl, zch7 (List.mem_of_getElem? (i := 84) rfl)⟩, Or.inr ⟨rfl, zch7 (List.mem_of_getElem? (i := 83) rfl), Or.inr (List.mem_append_left _ (List.mem_of_getElem? (i := 70) rfl))⟩, zch0 (List.mem_of_getElem? (i := 12) rfl), by decide, by decide⟩
set_option maxRecDepth 100000 in
theorem zmm_250 : zMw 250 := ⟨Or.inr ⟨rfl, rfl, zch7 (List.mem_of_getElem? (i := 92) rfl)⟩, Or.inr ⟨rfl, zch7 (List.mem_of_getElem? (i := 90) rfl), Or.inr (zch7 (List.mem_of_getElem? (i := 91) rfl))⟩, zch0 (List.mem_of_getElem? (i := 12) rfl), by decide, by decide⟩
set_option maxRecDepth 100000 in
theorem zmm_251 : zMw 251 := ⟨Or.inr ⟨rfl, rfl, zch7 (List.mem_of_getElem? (i := 96) rfl)⟩, Or.inr ⟨rfl, zch7 (List.mem_of_getElem? (i := 95) rfl), Or.inr (List.mem_append_left _ (List.mem_of_getElem? (i := 71) rfl))⟩, zch0 (List.mem_of_getElem? (i := 12) rfl), by decide, by decide⟩
set_option maxRecDepth 100000 in
theorem zmm_252 : zMw 252 := ⟨Or.inr ⟨rfl, rfl, zch7 (List.mem_of_getElem? (i := 100) rfl)⟩, Or.inr ⟨rfl, zch7 (List.mem_of_getElem? (i := 98) rfl), Or.inr (zch7 (List.mem_of_getElem? (i := 99) rfl))⟩, zch0 (List.mem_of_getElem? (i := 12) rfl), by decide, by decide⟩
set_option maxRecDepth 100000 in
theorem zmm_253 : zMw 253 := ⟨Or.inr ⟨rfl, rfl, zch7 (List.mem_of_getElem? (i := 104) rfl)⟩, Or.inr ⟨rfl, zch7 (List.mem_of_getElem? (i := 102) rfl), Or.inr (zch7 (List.mem_of_getElem? (i := 103) rfl))⟩, zch0 (List.mem_of_getElem? (i := 12) rfl), by decide, by decide⟩
set_option maxRecDepth 100000 in
theorem zmm_254 : zMw 254 := ⟨Or.inr ⟨rfl, rfl, zch7 (List.mem_of_getElem? (i := 107) rfl)⟩, Or.inl ⟨rfl, zch7 (List.mem_of_getElem? (i := 106) rfl)⟩, zch0 (List.mem_of_getElem? (i := 12) rfl), by decide, by decide⟩
set_option maxRecDepth 100000 in
theorem zmm_255 : zMw 255 := ⟨Or.inr ⟨rfl, rfl, zch7 (List.mem_of_getElem? (i := 111) rfl)⟩, Or.inr ⟨rfl, zch7 (List.mem_of_getElem? (i := 109) rfl), Or.inr (zch7 (List.mem_of_getElem? (i := 110) rfl))⟩, zch0 (List.mem_of_getElem? (i := 12) rfl), by decide, by decide⟩
set_option maxRecDepth 100000 in
theorem zmm_256 : zMw 256 := ⟨Or.inr ⟨rfl, rfl, zch7 (List.mem_of_getElem? (i := 115) rfl)⟩, Or.inr ⟨rfl, zch7 (List.mem_of_getElem? (i := 114) rfl), Or.inr (List.mem_append_left _ (List.mem_of_getElem? (i := 72) rfl))⟩, zch0 (List.mem_of_getElem? (i := 12) rfl), by decide, by decide⟩
set_option maxRecDepth 100000 in
theorem zmm_257 : zMw 257 := ⟨Or.inr ⟨rfl, rfl, zch7 (List.mem_of_getElem? (i := 119) rfl)⟩, Or.inr ⟨rfl, zch7 (List.mem_of_getElem? (i := 117) rfl), Or.inr (zch7 (List.mem_of_getElem? (i := 118) rfl))⟩, zch0 (List.mem_of_getElem? (i := 12) rfl), by decide, by decide⟩
set_option maxRecDepth 100000 in
theorem zmm_258 : zMw 258 := ⟨Or.inr ⟨rfl, rfl, zch7 (List.mem_of_getElem? (i := 123) rfl)⟩, Or.inr ⟨rfl, zch7 (List.mem_of_getElem? (i := 122) rfl), Or.inr (List.mem_append_left _ (List.mem_of_getElem? (i := 73) rfl))⟩, zch0 (List.mem_of_getElem? (i := 12) rfl), by decide, by decide⟩
set_option maxRecDepth 100000 in
theorem zmm_259 : zMw 259 := ⟨Or.inr ⟨rfl, rfl, zch7 (List.mem_of_getElem? (i := 127) rfl)⟩, Or.inr ⟨rfl, zch7 (List.mem_of_getElem? (i := 125) rfl), Or.inr (zch7 (List.mem_of_getElem? (i := 126) rfl))⟩, zch0 (List.mem_of_getElem? (i := 12) rfl), by decide, by decide⟩
set_option maxRecDepth 100000 in
theorem zmm_260 : zMw 260 := ⟨Or.inr ⟨rfl, rfl, zch7 (List.mem_of_getElem? (i := 131) rfl)⟩, Or.inr ⟨rfl, zch7 (List.mem_of_getElem? (i := 129) rfl), Or.inr (zch7 (List.mem_of_getElem? (i := 130) rfl))⟩, zch0 (List.mem_of_getElem? (i := 12) rfl), by decide, by decide⟩
set_option maxRecDepth 100000 in
theorem zmm_261 : zMw 261 := ⟨Or.inr ⟨rfl, rfl, zch7 (List.mem_of_getElem? (i := 135) rfl)⟩, Or.inr ⟨rfl, zch7 (List.mem_of_getElem? (i := 133) rfl), Or.inr (zch7 (List.mem_of_getElem? (i := 134) rfl))⟩, zch0 (List.mem_of_getElem? (i := 12) rfl), by decide, by decide⟩
set_option maxRecDepth 100000 in
theorem zmm_262 : zMw 262 := ⟨Or.inr ⟨rfl, rfl, zch7 (List.mem_of_getElem? (i := 139) rfl)⟩, Or.inr ⟨rfl, zch7 (List.mem_of_getElem? (i := 138) rfl), Or.inr (List.mem_append_left _ (List.mem_of_getElem? (i := 74) rfl))⟩, zch0 (List.mem_of_getElem? (i := 12) rfl), by decide, by decide⟩
set_option maxRecDepth 100000 in
theorem zmm_263 : zMw 263 := ⟨Or.inr ⟨rfl, rfl, zch7 (List.mem_of_getElem? (i := 143) rfl)⟩, Or.inr ⟨rfl, zch7 (List.mem_of_getElem? (i := 142) rfl), Or.inr (List.mem_append_left _ (List.mem_of_getElem? (i := 75) rfl))⟩, zch0 (List.mem_of_getElem? (i := 12) rfl), by decide, by decide⟩
set_option maxRecDepth 100000 in
theorem zmm_264 : zMw 264 := ⟨Or.inr ⟨rfl, rfl, zch7 (List.mem_of_getElem? (i := 146) rfl)⟩, Or.inl ⟨rfl, zch7 (List.mem_of_getElem? (i := 145) rfl)⟩, zch0 (List.mem_of_getElem? (i := 12) rfl), by decide, by decide⟩
set_option maxRecDepth 100000 in
theorem zmm_265 : zMw 265 := ⟨Or.inr ⟨rfl, rfl, zch7 (List.mem_of_getElem? (i := 150) rfl)⟩, Or.inr ⟨rfl, zch7 (List.mem_of_getElem? (i := 148) rfl), Or.inr (zch7 (List.mem_of_getElem? (i := 149) rfl))⟩, zch0 (List.mem_of_getElem? (i := 12) rfl), by decide, by decide⟩
set_option maxRecDepth 100000 in
theorem zmm_266 : zMw 266 := ⟨Or.inr ⟨rfl, rfl, zch7 (List.mem_of_getElem? (i := 154) rfl)⟩, Or.inr ⟨rfl, zch7 (List.mem_of_getElem? (i := 153) rfl), Or.inr (List.mem_append_left _ (List.mem_of_getElem? (i := 76) rfl))⟩, zch0 (List.mem_of_getElem? (i := 12) rfl), by decide, by decide⟩
set_option maxRecDepth 100000 in
theorem zmm_267 : zMw 267 := ⟨Or.inr ⟨rfl, rfl, zch7 (List.mem_of_getElem? (i := 158) rfl)⟩, Or.inr ⟨rfl, zch7 (List.mem_of_getElem? (i := 157) rfl), Or.inr (List.mem_append_left _ (List.mem_of_getElem? (i := 77) rfl))⟩, zch0 (List.mem_of_getElem? (i := 12) rfl), by decide, by decide⟩
set_option maxRecDepth 100000 in
theorem zmm_268 : zMw 268 := ⟨Or.inr ⟨rfl, rfl, zch7 (List.mem_of_getElem? (i := 162) rfl)⟩, Or.inr ⟨rfl, zch7 (List.mem_of_getElem? (i := 161) rfl), Or.inr (List.mem_append_left _ (List.mem_of_getElem? (i := 78) rfl))⟩, zch0 (List.mem_of_getElem? (i := 12) rfl), by decide, by decide⟩
set_option maxRecDepth 100000 in
theorem zmm_269 : zMw 269 := ⟨Or.inr ⟨rfl, rfl, zch7 (List.mem_of_getElem? (i := 166) rfl)⟩, Or.inr ⟨rfl, zch7 (List.mem_of_getElem? (i := 165) rfl), Or.inr (List.mem_append_left _ (List.mem_of_getElem? (i := 79) rfl))⟩, zch0 (List.mem_of_getElem? (i := 12) rfl), by decide, by decide⟩
set_option maxRecDepth 100000 in
theorem zmm_270 : zMw 270 := ⟨Or.inr ⟨rfl, rfl, zch7 (List.mem_of_getElem? (i := 170) rfl)⟩, Or.inr ⟨rfl, zch7 (List.mem_of_getElem? (i := 169) rfl), Or.inr (List.mem_append_left _ (List.mem_of_getElem? (i := 80) rfl))⟩, zch0 (List.mem_of_getElem? (i := 12) rfl), by decide, by decide⟩
set_option maxRecDepth 100000 in
theorem zmm_271 : zMw 271 := ⟨Or.inr ⟨rfl, rfl, zch7 (List.mem_of_getElem? (i := 174) rfl)⟩, Or.inr ⟨rfl, zch7 (List.mem_of_getElem? (i := 173) rfl), Or.inr (List.mem_append_left _ (List.mem_of_getElem? (i := 81) rfl))⟩, zch0 (List.mem_of_getElem? (i := 12) rfl), by decide, by decide⟩
set_option maxRecDepth 100000 in
theorem zmm_272 : zMw 272 := ⟨Or.inr ⟨rfl, rfl, zch7 (List.mem_of_getElem? (i := 178) rfl)⟩, Or.inr ⟨rfl, zch7 (List.mem_of_getElem? (i := 177) rfl), Or.inr (List.mem_append_left _ (List.mem_of_getElem? (i := 82) rfl))⟩, zch0 (List.mem_of_getElem? (i := 12) rfl), by decide, by decide⟩
set_option maxRecDepth 100000 in
theorem zmm_273 : zMw 273 := ⟨Or.inr ⟨rfl, rfl, zch7 (List.mem_of_getElem? (i := 182) rfl)⟩, Or.inr ⟨rfl, zch7 (List.mem_of_getElem? (i := 181) rfl), Or.inr (List.mem_append_left _ (List.mem_of_getElem? (i := 83) rfl))⟩, zch0 (List.mem_of_getElem? (i := 12) rfl), by decide, by decide⟩
set_option maxRecDepth 100000 in
theorem zmm_274 : zMw 274 := ⟨Or.inr ⟨rfl, rfl, zch7 (List.mem_of_getElem? (i := 186) rfl)⟩, Or.inr ⟨rfl, zch7 (List.mem_of_getElem? (i := 185) rfl), Or.inr (List.mem_append_left _ (List.mem_of_getElem? (i := 84) rfl))⟩, zch0 (List.mem_of_getElem? (i := 12) rfl), by decide, by decide⟩
set_option maxRecDepth 100000 in
theorem zmm_275 : zMw 275 := ⟨Or.inr ⟨rfl, rfl, zch7 (List.mem_of_getElem? (i := 191) rfl)⟩, Or.inr ⟨rfl, zch7 (List.mem_of_getElem? (i := 190) rfl), Or.inr (List.mem_append_left _ (List.mem_of_getElem? (i := 85) rfl))⟩, zch0 (List.mem_of_getElem? (i := 12) rfl), by decide, by decide⟩
set_option maxRecDepth 100000 in
theorem zmm_276 : zMw 276 := ⟨Or.inr ⟨rfl, rfl, zch7 (List.mem_of_getElem? (i := 195) rfl)⟩, Or.inr ⟨rfl, zch7 (List.mem_of_getElem? (i := 193) rfl), Or.inr (zch7 (List.mem_of_getElem? (i := 194) rfl))⟩, zch0 (List.mem_of_getElem? (i := 12) rfl), by decide, by decide⟩
set_option maxRecDepth 100000 in
theorem zmm_277 : zMw 277 := ⟨Or.inr ⟨rfl, rfl, zch7 (List.mem_of_getElem? (i := 199) rfl)⟩, Or.inr ⟨rfl, zch7 (List.mem_of_getElem? (i := 197) rfl), Or.inr (zch7 (List.mem_of_getElem? (i := 198) rfl))⟩, zch0 (List.mem_of_getElem? (i := 12) rfl), by decide, by decide⟩
set_option maxRecDepth 100000 in
theorem zmm_278 : zMw 278 := ⟨Or.inr ⟨rfl, rfl, zch7 (List.mem_of_getElem? (i := 203) rfl)⟩, Or.inr ⟨rfl, zch7 (List.mem_of_getElem? (i := 201) rfl), Or.inr (zch7 (List.mem_of_getElem? (i := 202) rfl))⟩, zch0 (List.mem_of_getElem? (i := 12) rfl), by decide, by decide⟩
set_option maxRecDepth 100000 in
theorem zmm_279 : zMw 279 := ⟨Or.inr ⟨rfl, rfl, zch7 (List.mem_of_getElem? (i := 207) rfl)⟩, Or.inr ⟨rfl, zch7 (List.mem_of_getElem? (i := 205) rfl), Or.inr (zch7 (List.mem_of_getElem? (i := 206) rfl))⟩, zch0 (List.mem_of_getElem? (i := 12) rfl), by decide, by decide⟩
set_option maxRecDepth 100000 in
theorem zmm_280 : zMw 280 := ⟨Or.inr ⟨rfl, rfl, zch7 (List.mem_of_getElem? (i := 211) rfl)⟩, Or.inr ⟨rfl, zch7 (List.mem_of_getElem? (i := 209) rfl), Or.inr (zch7 (List.mem_of_getElem? (i := 210) rfl))⟩, zch0 (List.mem_of_getElem? (i := 12) rfl), by decide, by decide⟩
set_option maxRecDepth 100000 in
theorem zmm_281 : zMw 281 := ⟨Or.inr ⟨rfl, rfl, zch7 (List.mem_of_getElem? (i := 215) rfl)⟩, Or.inr ⟨rfl, zch7 (List.mem_of_getElem? (i := 214) rfl), Or.inr (List.mem_append_left _ (List.mem_of_getElem? (i := 86) rfl))⟩, zch0 (List.mem_of_getElem? (i := 12) rfl), by decide, by decide⟩
set_option maxRecDepth 100000 in
theorem zmm_282 : zMw 282 := ⟨Or.inr ⟨rfl, rfl, zch7 (List.mem_of_getElem? (i := 219) rfl)⟩, Or.inr ⟨rfl, zch7 (List.mem_of_getElem? (i := 217) rfl), Or.inr (zch7 (List.mem_of_getElem? (i := 218) rfl))⟩, zch0 (List.mem_of_getElem? (i := 12) rfl), by decide, by decide⟩
set_option maxRecDepth 100000 in
theorem zmm_283 : zMw 283 := ⟨Or.inr ⟨rfl, rfl, zch7 (List.mem_of_getElem? (i := 223) rfl)⟩, Or.inr ⟨rfl, zch7 (List.mem_of_getElem? (i := 221) rfl), Or.inr (zch7 (List.mem_of_getElem? (i := 222) rfl))⟩, zch0 (List.mem_of_getElem? (i := 12) rfl), by decide, by decide⟩
set_option maxRecDepth 100000 in
theorem zmm_284 : zMw 284 := ⟨Or.inr ⟨rfl, rfl, zch7 (List.mem_of_getElem? (i := 227) rfl)⟩, Or.inr ⟨rfl, zch7 (List.mem_of_getElem? (i := 225) rfl), Or.inr (zch7 (List.mem_of_getElem? (i := 226) rfl))⟩, zch0 (List.mem_of_getElem? (i := 12) rfl), by decide, by decide⟩
set_option maxRecDepth 100000 in
theorem zmm_285 : zMw 285 := ⟨Or.inr ⟨rfl, rfl, zch7 (List.mem_of_getElem? (i := 231) rfl)⟩, Or.inr ⟨rfl, zch7 (List.mem_of_getElem? (i := 229) rfl), Or.inr (zch7 (List.mem_of_getElem? (i := 230) rfl))⟩, zch0 (List.mem_of_getElem? (i := 12) rfl), by decide, by decide⟩
set_option maxRecDepth 100000 in
theorem zmm_286 : zMw 286 := ⟨Or.inr ⟨rfl, rfl, zch7 (List.mem_of_getElem? (i := 235) rfl)⟩, Or.inr ⟨rfl, zch7 (List.mem_of_getElem? (i := 234) rfl), Or.inr (List.mem_append_left _ (List.mem_of_getElem? (i := 87) rfl))⟩, zch0 (List.mem_of_getElem? (i := 12) rfl), by decide, by decide⟩
set_option maxRecDepth 100000 in
theorem zmm_287 : zMw 287 := ⟨Or.inr ⟨rfl, rfl, zch8 (List.mem_of_getElem? (i := 0) rfl)⟩, Or.inr ⟨rfl, zch7 (List.mem_of_getElem? (i := 239) rfl), Or.inr (List.mem_append_left _ (List.mem_of_getElem? (i := 88) rfl))⟩, zch0 (List.mem_of_getElem? (i := 12) rfl), by decide, by decide⟩
set_option maxRecDepth 100000 in
theorem zmm_288 : zMw 288 := ⟨Or.inr ⟨rfl, rfl, zch8 (List.mem_of_getElem? (i := 4) rfl)⟩, Or.inr ⟨rfl, zch8 (List.mem_of_getElem? (i := 2) rfl), Or.inr (zch8 (List.mem_of_getElem? (i := 3) rfl))⟩, zch0 (List.mem_of_getElem? (i := 12) rfl), by decide, by decide⟩
set_option maxRecDepth 100000 in
theorem zmm_289 : zMw 289 := ⟨Or.inr ⟨rfl, rfl, zch8 (List.mem_of_getElem? (i := 8) rfl)⟩, Or.inr ⟨rfl, zch8 (List.mem_of_getElem? (i := 6) rfl), Or.inr (zch8 (List.mem_of_getElem? (i := 7) rfl))⟩, zch0 (List.mem_of_getElem? (i := 12) rfl), by decide, by decide⟩
set_option maxRecDepth 100000 in
theorem zmm_290 : zMw 290 := ⟨Or.inr ⟨rfl, rfl, zch8 (List.mem_of_getElem? (i := 11) rfl)⟩, Or.inl ⟨rfl, zch8 (List.mem_of_getElem? (i := 10) rfl)⟩, zch0 (List.mem_of_getElem? (i := 12) rfl), by decide, by decide⟩
set_option maxRecDepth 100000 in
theorem zmm_291 : zMw 291 := ⟨Or.inr ⟨rfl, rfl, zch8 (List.mem_of_getElem? (i := 14) rfl)⟩, Or.inl ⟨rfl, zch8 (List.mem_of_getElem? (i := 13) rfl)⟩, zch0 (List.mem_of_getElem? (i := 12) rfl), by decide, by decide⟩
set_option maxRecDepth 100000 in
theorem zmm_292 : zMw 292 := ⟨Or.inr ⟨rfl, rfl, zch8 (List.mem_of_getElem? (i := 18) rfl)⟩, Or.inr ⟨rfl, zch8 (List.mem_of_getElem? (i := 17) rfl), Or.inr (List.mem_append_left _ (List.mem_of_getElem? (i := 89) rfl))⟩, zch0 (List.mem_of_getElem? (i := 12) rfl), by decide, by decide⟩
set_option maxRecDepth 100000 in
theorem zmm_293 : zMw 293 := ⟨Or.inr ⟨rfl, rfl, zch8 (List.mem_of_getElem? (i := 22) rfl)⟩, Or.inr ⟨rfl, zch8 (List.mem_of_getElem? (i := 21) rfl), Or.inr (List.mem_append_left _ (List.mem_of_getElem? (i := 90) rfl))⟩, zch0 (List.mem_of_getElem? (i := 12) rfl), by decide, by decide⟩
set_option maxRecDepth 100000 in
theorem zmm_294 : zMw 294 := ⟨Or.inr ⟨rfl, rfl, zch8 (List.mem_of_getElem? (i := 26) rfl)⟩, Or.inr ⟨rfl, zch8 (List.mem_of_getElem? (i := 24) rfl), Or.inr (zch8 (List.mem_of_getElem? (i := 25) rfl))⟩, zch0 (List.mem_of_getElem? (i := 12) rfl), by decide, by decide⟩
set_option maxRecDepth 100000 in
theorem zmm_295 : zMw 295 := ⟨Or.inr ⟨rfl, rfl, zch8 (List.mem_of_getElem? (i := 30) rfl)⟩, Or.inr ⟨rfl, zch8 (List.mem_of_getElem? (i := 28) rfl), Or.inr (zch8 (List.mem_of_getElem? (i := 29) rfl))⟩, zch0 (List.mem_of_getElem? (i := 12) rfl), by decide, by decide⟩
set_option maxRecDepth 100000 in
theorem zmm_296 : zMw 296 := ⟨Or.inr ⟨rfl, rfl, zch8 (List.mem_of_getElem? (i := 34) rfl)⟩, Or.inr ⟨rfl, zch8 (List.mem_of_getElem? (i := 32) rfl), Or.inr (zch8 (List.mem_of_getElem? (i := 33) rfl))⟩, zch0 (List.mem_of_getElem? (i := 12) rfl), by decide, by decide⟩
set_option maxRecDepth 100000 in
theorem zmm_297 : zMw 297 := ⟨Or.inr ⟨rfl, rfl, zch8 (List.mem_of_getElem? (i := 38) rfl)⟩, Or.inr ⟨rfl, zch8 (List.mem_of_getElem? (i := 37) rfl), Or.inr (List.mem_append_left _ (List.mem_of_getElem? (i := 91) rfl))⟩, zch0 (List.mem_of_getElem? (i := 12) rfl), by decide, by decide⟩
set_option maxRecDepth 100000 in
theorem zmm_298 : zMw 298 := ⟨Or.inr ⟨rfl, rfl, zch8 (List.mem_of_getElem? (i := 42) rfl)⟩, Or.inl ⟨rfl, zch8 (List.mem_of_getElem? (i := 41) rfl)⟩, zch0 (List.mem_of_getElem? (i := 12) rfl), by decide, by decide⟩
set_option maxRecDepth 100000 in
theorem zmm_299 : zMw 299 := ⟨Or.inr ⟨rfl, rfl, zch8 (List.mem_of_getElem? (i := 46) rfl)⟩, Or.inr ⟨rfl, zch8 (List.mem_of_getElem? (i := 45) rfl), Or.inr (List.mem_append_left _ (List.mem_of_getElem? (i := 92) rfl))⟩, zch0 (List.mem_of_getElem? (i := 12) rfl), by decide, by decide⟩
set_option maxRecDepth 100000 in
theorem zmm_300 : zMw 300 := ⟨Or.inr ⟨rfl, rfl, zch8 (List.mem_of_getElem? (i := 50) rfl)⟩, Or.inr ⟨rfl, zch8 (List.mem_of_getElem? (i := 49) rfl), Or.inr (List.mem_append_left _ (List.mem_of_getElem? (i := 93) rfl))⟩, zch0 (List.mem_of_getElem? (i := 12) rfl), by decide, by decide⟩
set_option maxRecDepth 100000 in
theorem zmm_301 : zMw 301 := ⟨Or.inr ⟨rfl, rfl, zch8 (List.mem_of_getElem? (i := 53) rfl)⟩, Or.inl ⟨rfl, zch8 (List.mem_of_getElem? (i := 52) rfl)⟩, zch0 (List.mem_of_getElem? (i := 12) rfl), by decide, by decide⟩
set_option maxRecDepth 100000 in
theorem zmm_302 : zMw 302 := ⟨Or.inr ⟨rfl, rfl, zch8 (List.mem_of_getElem? (i := 57) rfl)⟩, Or.inr ⟨rfl, zch8 (List.mem_of_getElem? (i := 55) rfl), Or.inr (zch8 (List.mem_of_getElem? (i := 56) rfl))⟩, zch0 (List.mem_of_getElem? (i := 12) rfl), by decide, by decide⟩
set_option maxRecDepth 100000 in
theorem zmm_303 : zMw 303 := ⟨Or.inr ⟨rfl, rfl, zch8 (List.mem_of_getElem? (i := 62) rfl)⟩, Or.inr ⟨rfl, zch8 (List.mem_of_getElem? (i := 60) rfl), Or.inr (zch8 (List.mem_of_getElem? (i := 61) rfl))⟩, zch0 (List.mem_of_getElem? (i := 12) rfl), by decide, by decide⟩
set_option maxRecDepth 100000 in
theorem zmm_304 : zMw 304 := ⟨Or.inr ⟨rfl, rfl, zch8 (List.mem_of_getElem? (i := 66) rfl)⟩, Or.inr ⟨rfl, zch8 (List.mem_of_getElem? (i := 64) rfl), Or.inr (zch8 (List.mem_of_getElem? (i := 65) rfl))⟩, zch0 (List.mem_of_getElem? (i := 12) rfl), by decide, by decide⟩
set_option maxRecDepth 100000 in
theorem zmm_305 : zMw 305 := ⟨Or.inr ⟨rfl, rfl, zch8 (List.mem_of_getElem? (i := 70) rfl)⟩, Or.inr ⟨rfl, zch8 (List.mem_of_getElem? (i := 69) rfl), Or.inr (List.mem_append_left _ (List.mem_of_getElem? (i := 94) rfl))⟩, zch0 (List.mem_of_getElem? (i := 12) rfl), by decide, by decide⟩
set_option maxRecDepth 100000 in
theorem zmm_306 : zMw 306 := ⟨Or.inr ⟨rfl, rfl, zch8 (List.mem_of_getElem? (i := 74) rfl)⟩, Or.inr ⟨rfl, zch8 (List.mem_of_getElem? (i := 72) rfl), Or.inr (zch8 (List.mem_of_getElem? (i := 73) rfl))⟩, zch0 (List.mem_of_getElem? (i := 12) rfl), by decide, by decide⟩
set_option maxRecDepth 100000 in
theorem zmm_307 : zMw 307 := ⟨Or.inr ⟨rfl, rfl, zch8 (List.mem_of_getElem? (i := 78) rfl)⟩, Or.inr ⟨rfl, zch8 (List.mem_of_getElem? (i := 76) rfl), Or.inr (zch8 (List.mem_of_getElem? (i := 77) rfl))⟩, zch0 (List.mem_of_getElem? (i := 12) rfl), by decide, by decide⟩
set_option maxRecDepth 100000 in
theorem zmm_308 : zMw 308 := ⟨Or.inr ⟨rfl, rfl, zch8 (List.mem_of_getElem? (i := 82) rfl)⟩, Or.inr ⟨rfl, zch8 (List.mem_of_getElem? (i := 81) rfl), Or.inr (List.mem_append_left _ (List.mem_of_getElem? (i := 95) rfl))⟩, zch0 (List.mem_of_getElem? (i := 12) rfl), by decide, by decide⟩
set_option maxRecDepth 100000 in
theorem zmm_309 : zMw 309 := ⟨Or.inr ⟨rfl, rfl, zch8 (List.mem_of_getElem? (i := 86) rfl)⟩, Or.inr ⟨rfl, zch8 (List.mem_of_getElem? (i := 85) rfl), Or.inr (List.mem_append_left _ (List.mem_of_getElem? (i := 96) rfl))⟩, zch0 (List.mem_of_getElem? (i := 12) rfl), by decide, by decide⟩
set_option maxRecDepth 100000 in
theorem zmm_310 : zMw 310 := ⟨Or.inr ⟨rfl, rfl, zch8 (List.mem_of_getElem? (i := 90) rfl)⟩, Or.inr ⟨rfl, zch8 (List.mem_of_getElem? (i := 88) rfl), Or.inr (zch8 (List.mem_of_getElem? (i := 89) rfl))⟩, zch0 (List.mem_of_getElem? (i := 12) rfl), by decide, by decide⟩
set_option maxRecDepth 100000 in
theorem zmm_311 : zMw 311 := ⟨Or.inr ⟨rfl, rfl, zch8 (List.mem_of_getElem? (i := 95) rfl)⟩, Or.inr ⟨rfl, zch8 (List.mem_of_getElem? (i := 93) rfl), Or.inr (zch8 (List.mem_of_getElem? (i := 94) rfl))⟩, zch0 (List.mem_of_getElem? (i := 12) rfl), by decide, by decide⟩
set_option maxRecDepth 100000 in
theorem zmm_312 : zMw 312 := ⟨Or.inr ⟨rfl, rfl, zch8 (List.mem_of_getElem? (i := 99) rfl)⟩, Or.inr ⟨rfl, zch8 (List.mem_of_getElem? (i := 97) rfl), Or.inr (zch8 (List.mem_of_getElem? (i := 98) rfl))⟩, zch0 (List.mem_of_getElem? (i := 12) rfl), by decide, by decide⟩
set_option maxRecDepth 100000 in
theorem zmm_313 : zMw 313 := ⟨Or.inr ⟨rfl, rfl, zch8 (List.mem_of_getElem? (i := 103) rfl)⟩, Or.inr ⟨rfl, zch8 (List.mem_of_getElem? (i := 102) rfl), Or.inr (List.mem_append_left _ (List.mem_of_getElem? (i := 97) rfl))⟩, zch0 (List.mem_of_getElem? (i := 12) rfl), by decide, by decide⟩
set_option maxRecDepth 100000 in
theorem zmm_314 : zMw 314 := ⟨Or.inr ⟨rfl, rfl, zch8 (List.mem_of_getElem? (i := 107) rfl)⟩, Or.inr ⟨rfl, zch8 (List.mem_of_getElem? (i := 106) rfl), Or.inr (List.mem_append_left _ (List.mem_of_getElem? (i := 98) rfl))⟩, zch0 (List.mem_of_getElem? (i := 12) rfl), by decide, by decide⟩
set_option maxRecDepth 100000 in
theorem zmm_315 : zMw 315 := ⟨Or.inr ⟨rfl, rfl, zch8 (List.mem_of_getElem? (i := 112) rfl)⟩, Or.inr ⟨rfl, zch8 (List.mem_of_getElem? (i := 110) rfl), Or.inr (zch8 (List.mem_of_getElem? (i := 111) rfl))⟩, zch0 (List.mem_of_getElem? (i := 12) rfl), by decide, by decide⟩
set_option maxRecDepth 100000 in
theorem zmm_316 : zMw 316 := ⟨Or.inr ⟨rfl, rfl, zch8 (List.mem_of_getElem? (i := 116) rfl)⟩, Or.inr ⟨rfl, zch8 (List.mem_of_getElem? (i := 114) rfl), Or.inr (zch8 (List.mem_of_getElem? (i := 115) rfl))⟩, zch0 (List.mem_of_getElem? (i := 12) rfl), by decide, by decide⟩
set_option maxRecDepth 100000 in
theorem zmm_317 : zMw 317 := ⟨Or.inr ⟨rfl, rfl, zch8 (List.mem_of_getElem? (i := 120) rfl)⟩, Or.inr ⟨rfl, zch8 (List.mem_of_getElem? (i := 119) rfl), Or.inr (List.mem_append_left _ (List.mem_of_getElem? (i := 99) rfl))⟩, zch0 (List.mem_of_getElem? (i := 12) rfl), by decide, by decide⟩
set_option maxRecDepth 100000 in
theorem zmm_318 : zMw 318 := ⟨Or.inr ⟨rfl, rfl, zch8 (List.mem_of_getElem? (i := 124) rfl)⟩, Or.inr ⟨rfl, zch8 (List.mem_of_getElem? (i := 122) rfl), Or.inr (zch8 (List.mem_of_getElem? (i := 123) rfl))⟩, zch0 (List.mem_of_getElem? (i := 12) rfl), by decide, by decide⟩
set_option maxRecDepth 100000 in
theorem zmm_319 : zMw 319 := ⟨Or.inr ⟨rfl, rfl, zch8 (List.mem_of_getElem? (i := 128) rfl)⟩, Or.inr ⟨rfl, zch8 (List.mem_of_getElem? (i := 127) rfl), Or.inr (List.mem_append_left _ (List.mem_of_getElem? (i := 100) rfl))⟩, zch0 (List.mem_of_getElem? (i := 12) rfl), by decide, by decide⟩
set_option maxRecDepth 100000 in
theorem zmm_320 : zMw 320 := ⟨Or.inr ⟨rfl, rfl, zch8 (List.mem_of_getElem? (i := 132) rfl)⟩, Or.inr ⟨rfl, zch8 (List.mem_of_getElem? (i := 130) rfl), Or.inr (zch8 (List.mem_of_getElem? (i := 131) rfl))⟩, zch0 (List.mem_of_getElem? (i := 12) rfl), by decide, by decide⟩
set_option maxRecDepth 100000 in
theorem zmm_321 : zMw 321 := ⟨Or.inr ⟨rfl, rfl, zch8 (List.mem_of_getElem? (i := 136) rfl)⟩, Or.inr ⟨rfl, zch8 (List.mem_of_getElem? (i := 134) rfl), Or.inr (zch8 (List.mem_of_getElem? (i := 135) rfl))⟩, zch0 (List.mem_of_getElem? (i := 12) rfl), by decide, by decide⟩
set_option maxRecDepth 100000 in
theorem zmm_322 : zMw 322 := ⟨Or.inr ⟨rfl, rfl, zch8 (List.mem_of_getElem? (i := 140) rfl)⟩, Or.inr ⟨rfl, zch8 (List.mem_of_getElem? (i := 139) rfl), Or.inr (List.mem_append_left _ (List.mem_of_getElem? (i := 101) rfl))⟩, zch0 (List.mem_of_getElem? (i := 12) rfl), by decide, by decide⟩
set_option maxRecDepth 100000 in
theorem zmm_323 : zMw 323 := ⟨Or.inr ⟨rfl, rfl, zch8 (List.mem_of_getElem? (i := 144) rfl)⟩, Or.inr ⟨rfl, zch8 (List.mem_of_getElem? (i := 142) rfl), Or.inr (zch8 (List.mem_of_getElem? (i := 143) rfl))⟩, zch0 (List.mem_of_getElem? (i := 12) rfl), by decide, by decide⟩
set_option maxRecDepth 100000 in
theorem zmm_324 : zMw 324 := ⟨Or.inr ⟨rfl, rfl, zch8 (List.mem_of_getElem? (i := 148) rfl)⟩, Or.inr ⟨rfl, zch8 (List.mem_of_getElem? (i := 146) rfl), Or.inr (zch8 (List.mem_of_getElem? (i := 147) rfl))⟩, zch0 (List.mem_of_getElem? (i := 12) rfl), by decide, by decide⟩
set_option maxRecDepth 100000 in
theorem zmm_325 : zMw 325 := ⟨Or.inr ⟨rfl, rfl, zch8 (List.mem_of_getElem? (i := 152) rfl)⟩, Or.inr ⟨rfl, zch8 (List.mem_of_getElem? (i := 151) rfl), Or.inr (List.mem_append_left _ (List.mem_of_getElem? (i := 102) rfl))⟩, zch0 (List.mem_of_getElem? (i := 12) rfl), by decide, by decide⟩
set_option maxRecDepth 100000 in
theorem zmm_326 : zMw 326 := ⟨Or.inr ⟨rfl, rfl, zch8 (List.mem_of_getElem? (i := 156) rfl)⟩, Or.inr ⟨rfl, zch8 (List.mem_of_getElem? (i := 155) rfl), Or.inr (List.mem_append_left _ (List.mem_of_getElem? (i := 103) rfl))⟩, zch0 (List.mem_of_getElem? (i := 12) rfl), by decide, by decide⟩
set_option maxRecDepth 100000 in
theorem zmm_327 : zMw 327 := ⟨Or.inr ⟨rfl, rfl, zch8 (List.mem_of_getElem? (i := 160) rfl)⟩, Or.inr ⟨rfl, zch8 (List.mem_of_getElem? (i := 158) rfl), Or.inr (zch8 (List.mem_of_getElem? (i := 159) rfl))⟩, zch0 (List.mem_of_getElem? (i := 12) rfl), by decide, by decide⟩
set_option maxRecDepth 100000 in
theorem zmm_328 : zMw 328 := ⟨Or.inr ⟨rfl, rfl, zch8 (List.mem_of_getElem? (i := 164) rfl)⟩, Or.inr ⟨rfl, zch8 (List.mem_of_getElem? (i := 162) rfl), Or.inr (zch8 (List.mem_of_getElem? (i := 163) rfl))⟩, zch0 (List.mem_of_getElem? (i := 12) rfl), by decide, by decide⟩
set_option maxRecDepth 100000 in
theorem zmm_329 : zMw 329 := ⟨Or.inr ⟨rfl, rfl, zch8 (List.mem_of_getElem? (i := 168) rfl)⟩, Or.inr ⟨rfl, zch8 (List.mem_of_getElem? (i := 166) rfl), Or.inr (zch8 (List.mem_of_getElem? (i := 167) rfl))⟩, zch0 (List.mem_of_getElem? (i := 12) rfl), by decide, by decide⟩
set_option maxRecDepth 100000 in
theorem zmm_330 : zMw 330 := ⟨Or.inr ⟨rfl, rfl, zch8 (List.mem_of_getElem? (i := 172) rfl)⟩, Or.inr ⟨rfl, zch8 (List.mem_of_getElem? (i := 171) rfl), Or.inr (List.mem_append_left _ (List.mem_of_getElem? (i := 104) rfl))⟩, zch0 (List.mem_of_getElem? (i := 12) rfl), by decide, by decide⟩
set_option maxRecDepth 100000 in
theorem zmm_331 : zMw 331 := ⟨Or.inr ⟨rfl, rfl, zch8 (List.mem_of_getElem? (i := 176) rfl)⟩, Or.inr ⟨rfl, zch8 (List.mem_of_getElem? (i := 174) rfl), Or.inr (zch8 (List.mem_of_getElem? (i := 175) rfl))⟩, zch0 (List.mem_of_getElem? (i := 12) rfl), by decide, by decide⟩
set_option maxRecDepth 100000 in
theorem zmm_332 : zMw 332 := ⟨Or.inr ⟨rfl, rfl, zch8 (List.mem_of_getElem? (i := 180) rfl)⟩, Or.inr ⟨rfl, zch8 (List.mem_of_getElem? (i := 178) rfl), Or.inr (zch8 (List.mem_of_getElem? (i := 179) rfl))⟩, zch0 (List.mem_of_getElem? (i := 12) rfl), by decide, by decide⟩
set_option maxRecDepth 100000 in
theorem zmm_333 : zMw 333 := ⟨Or.inr ⟨rfl, rfl, zch8 (List.mem_of_getElem? (i := 184) rfl)⟩, Or.inr ⟨rfl, zch8 (List.mem_of_getElem? (i := 182) rfl), Or.inr (zch8 (List.mem_of_getElem? (i := 183) rfl))⟩, zch0 (List.mem_of_getElem? (i := 12) rfl), by decide, by decide⟩
set_option maxRecDepth 100000 in
theorem zmm_334 : zMw 334 := ⟨Or.inr ⟨rfl, rfl, zch8 (List.mem_of_getElem? (i := 188) rfl)⟩, Or.inr ⟨rfl, zch8 (List.mem_of_getElem? (i := 186) rfl), Or.inr (zch8 (List.mem_of_getElem? (i := 187) rfl))⟩, zch0 (List.mem_of_getElem? (i := 12) rfl), by decide, by decide⟩
set_option maxRecDepth 100000 in
theorem zMw_all (μ : Nat) (h0 : 1 ≤ μ) (h1 : μ < 335) : zMw μ := by
  rcases Nat.lt_or_ge μ 168 with h1 | h0
  · rcases Nat.lt_or_ge μ 84 with h1 | h0
    · rcases Nat.lt_or_ge μ 42 with h1 | h0
      · rcases Nat.lt_or_ge μ 21 with h1 | h0
        · rcases Nat.lt_or_ge μ 11 with h1 | h0
          · rcases Nat.lt_or_ge μ 6 with h1 | h0
            · rcases Nat.lt_or_ge μ 3 with h1 | h0
              · rcases Nat.lt_or_ge μ 2 with h1 | h0
                · have e : μ = 1 := by omega
                  subst e
                  exact zmm_1
                · have e : μ = 2 := by omega
                  subst e
                  exact zmm_2
              · rcases Nat.lt_or_ge μ 4 with h1 | h0
                · have e : μ = 3 := by omega
                  subst e
                  exact zmm_3
                · rcases Nat.lt_or_ge μ 5 with h1 | h0
                  · have e : μ = 4 := by omega
                    subst e
                    exact zmm_4
                  · have e : μ = 5 := by omega
                    subst e
                    exact zmm_5
            · rcases Nat.lt_or_ge μ 8 with h1 | h0
              · rcases Nat.lt_or_ge μ 7 with h1 | h0
                · have e : μ = 6 := by omega
                  subst e
                  exact zmm_6
                · have e : μ = 7 := by omega
                  subst e
                  exact zmm_7
              · rcases Nat.lt_or_ge μ 9 with h1 | h0
                · have e : μ = 8 := by omega
                  subst e
                  exact zmm_8
                · rcases Nat.lt_or_ge μ 10 with h1 | h0
                  · have e : μ = 9 := by omega
                    subst e
                    exact zmm_9
                  · have e : μ = 10 := by omega
                    subst e
                    exact zmm_10
          · rcases Nat.lt_or_ge μ 16 with h1 | h0
            · rcases Nat.lt_or_ge μ 13 with h1 | h0
              · rcases Nat.lt_or_ge μ 12 with h1 | h0
                · have e : μ = 11 := by omega
                  subst e
                  exact zmm_11
                · have e : μ = 12 := by omega
                  subst e
                  exact zmm_12
              · rcases Nat.lt_or_ge μ 14 with h1 | h0
                · have e : μ = 13 := by omega
                  subst e
                  exact zmm_13
                · rcases Nat.lt_or_ge μ 15 with h1 | h0
                  · have e : μ = 14 := by omega
                    subst e
                    exact zmm_14
                  · have e : μ = 15 := by omega
                    subst e
                    exact zmm_15
            · rcases Nat.lt_or_ge μ 18 with h1 | h0
              · rcases Nat.lt_or_ge μ 17 with h1 | h0
                · have e : μ = 16 := by omega
                  subst e
                  exact zmm_16
                · have e : μ = 17 := by omega
                  subst e
                  exact zmm_17
              · rcases Nat.lt_or_ge μ 19 with h1 | h0
                · have e : μ = 18 := by omega
                  subst e
                  exact zmm_18
                · rcases Nat.lt_or_ge μ 20 with h1 | h0
                  · have e : μ = 19 := by omega
                    subst e
                    exact zmm_19
                  · have e : μ = 20 := by omega
                    subst e
                    exact zmm_20
        · rcases Nat.lt_or_ge μ 31 with h1 | h0
          · rcases Nat.lt_or_ge μ 26 with h1 | h0
            · rcases Nat.lt_or_ge μ 23 with h1 | h0
              · rcases Nat.lt_or_ge μ 22 with h1 | h0
                · have e : μ = 21 := by omega
                  subst e
                  exact zmm_21
                · have e : μ = 22 := by omega
                  subst e
                  exact zmm_22
              · rcases Nat.lt_or_ge μ 24 with h1 | h0
                · have e : μ = 23 := by omega
                  subst e
                  exact zmm_23
                · rcases Nat.lt_or_ge μ 25 with h1 | h0
                  · have e : μ = 24 := by omega
                    subst e
                    exact zmm_24
                  · have e : μ = 25 := by omega
                    subst e
                    exact zmm_25
            · rcases Nat.lt_or_ge μ 28 with h1 | h0
              · rcases Nat.lt_or_ge μ 27 with h1 | h0
                · have e : μ = 26 := by omega
                  subst e
                  exact zmm_26
                · have e : μ = 27 := by omega
                  subst e
                  exact zmm_27
              · rcases Nat.lt_or_ge μ 29 with h1 | h0
                · have e : μ = 28 := by omega
                  subst e
                  exact zmm_28
                · rcases Nat.lt_or_ge μ 30 with h1 | h0
                  · have e : μ = 29 := by omega
                    subst e
                    exact zmm_29
                  · have e : μ = 30 := by omega
                    subst e
                    exact zmm_30
          · rcases Nat.lt_or_ge μ 36 with h1 | h0
            · rcases Nat.lt_or_ge μ 33 with h1 | h0
              · rcases Nat.lt_or_ge μ 32 with h1 | h0
                · have e : μ = 31 := by omega
                  subst e
                  exact zmm_31
                · have e : μ = 32 := by omega
                  subst e
                  exact zmm_32
              · rcases Nat.lt_or_ge μ 34 with h1 | h0
                · have e : μ = 33 := by omega
                  subst e
                  exact zmm_33
                · rcases Nat.lt_or_ge μ 35 with h1 | h0
                  · have e : μ = 34 := by omega
                    subst e
                    exact zmm_34
                  · have e : μ = 35 := by omega
                    subst e
                    exact zmm_35
            · rcases Nat.lt_or_ge μ 39 with h1 | h0
              · rcases Nat.lt_or_ge μ 37 with h1 | h0
                · have e : μ = 36 := by omega
                  subst e
                  exact zmm_36
                · rcases Nat.lt_or_ge μ 38 with h1 | h0
                  · have e : μ = 37 := by omega
                    subst e
                    exact zmm_37
                  · have e : μ = 38 := by omega
                    subst e
                    exact zmm_38
              · rcases Nat.lt_or_ge μ 40 with h1 | h0
                · have e : μ = 39 := by omega
                  subst e
                  exact zmm_39
                · rcases Nat.lt_or_ge μ 41 with h1 | h0
                  · have e : μ = 40 := by omega
                    subst e
                    exact zmm_40
                  · have e : μ = 41 := by omega
                    subst e
                    exact zmm_41
      · rcases Nat.lt_or_ge μ 63 with h1 | h0
        · rcases Nat.lt_or_ge μ 52 with h1 | h0
          · rcases Nat.lt_or_ge μ 47 with h1 | h0
            · rcases Nat.lt_or_ge μ 44 with h1 | h0
              · rcases Nat.lt_or_ge μ 43 with h1 | h0
                · have e : μ = 42 := by omega
                  subst e
                  exact zmm_42
                · have e : μ = 43 := by omega
                  subst e
                  exact zmm_43
              · rcases Nat.lt_or_ge μ 45 with h1 | h0
                · have e : μ = 44 := by omega
                  subst e
                  exact zmm_44
                · rcases Nat.lt_or_ge μ 46 with h1 | h0
                  · have e : μ = 45 := by omega
                    subst e
                    exact zmm_45
                  · have e : μ = 46 := by omega
                    subst e
                    exact zmm_46
            · rcases Nat.lt_or_ge μ 49 with h1 | h0
              · rcases Nat.lt_or_ge μ 48 with h1 | h0
                · have e : μ = 47 := by omega
                  subst e
                  exact zmm_47
                · have e : μ = 48 := by omega
                  subst e
                  exact zmm_48
              · rcases Nat.lt_or_ge μ 50 with h1 | h0
                · have e : μ = 49 := by omega
                  subst e
                  exact zmm_49
                · rcases Nat.lt_or_ge μ 51 with h1 | h0
                  · have e : μ = 50 := by omega
                    subst e
                    exact zmm_50
                  · have e : μ = 51 := by omega
                    subst e
                    exact zmm_51
          · rcases Nat.lt_or_ge μ 57 with h1 | h0
            · rcases Nat.lt_or_ge μ 54 with h1 | h0
              · rcases Nat.lt_or_ge μ 53 with h1 | h0
                · have e : μ = 52 := by omega
                  subst e
                  exact zmm_52
                · have e : μ = 53 := by omega
                  subst e
                  exact zmm_53
              · rcases Nat.lt_or_ge μ 55 with h1 | h0
                · have e : μ = 54 := by omega
                  subst e
                  exact zmm_54
                · rcases Nat.lt_or_ge μ 56 with h1 | h0
                  · have e : μ = 55 := by omega
                    subst e
                    exact zmm_55
                  · have e : μ = 56 := by omega
                    subst e
                    exact zmm_56
            · rcases Nat.lt_or_ge μ 60 with h1 | h0
              · rcases Nat.lt_or_ge μ 58 with h1 | h0
                · have e : μ = 57 := by omega
                  subst e
                  exact zmm_57
                · rcases Nat.lt_or_ge μ 59 with h1 | h0
                  · have e : μ = 58 := by omega
                    subst e
                    exact zmm_58
                  · have e : μ = 59 := by omega
                    subst e
                    exact zmm_59
              · rcases Nat.lt_or_ge μ 61 with h1 | h0
                · have e : μ = 60 := by omega
                  subst e
                  exact zmm_60
                · rcases Nat.lt_or_ge μ 62 with h1 | h0
                  · have e : μ = 61 := by omega
                    subst e
                    exact zmm_61
                  · have e : μ = 62 := by omega
                    subst e
                    exact zmm_62
        · rcases Nat.lt_or_ge μ 73 with h1 | h0
          · rcases Nat.lt_or_ge μ 68 with h1 | h0
            · rcases Nat.lt_or_ge μ 65 with h1 | h0
              · rcases Nat.lt_or_ge μ 64 with h1 | h0
                · have e : μ = 63 := by omega
                  subst e
                  exact zmm_63
                · have e : μ = 64 := by omega
                  subst e
                  exact zmm_64
              · rcases Nat.lt_or_ge μ 66 with h1 | h0
                · have e : μ = 65 := by omega
                  subst e
                  exact zmm_65
                · rcases Nat.lt_or_ge μ 67 with h1 | h0
                  · have e : μ = 66 := by omega
                    subst e
                    exact zmm_66
                  · have e : μ = 67 := by omega
                    subst e
                    exact zmm_67
            · rcases Nat.lt_or_ge μ 70 with h1 | h0
              · rcases Nat.lt_or_ge μ 69 with h1 | h0
                · have e : μ = 68 := by omega
                  subst e
                  exact zmm_68
                · have e : μ = 69 := by omega
                  subst e
                  exact zmm_69
              · rcases Nat.lt_or_ge μ 71 with h1 | h0
                · have e : μ = 70 := by omega
                  subst e
                  exact zmm_70
                · rcases Nat.lt_or_ge μ 72 with h1 | h0
                  · have e : μ = 71 := by omega
                    subst e
                    exact zmm_71
                  · have e : μ = 72 := by omega
                    subst e
                    exact zmm_72
          · rcases Nat.lt_or_ge μ 78 with h1 | h0
            · rcases Nat.lt_or_ge μ 75 with h1 | h0
              · rcases Nat.lt_or_ge μ 74 with h1 | h0
                · have e : μ = 73 := by omega
                  subst e
                  exact zmm_73
                · have e : μ = 74 := by omega
                  subst e
                  exact zmm_74
              · rcases Nat.lt_or_ge μ 76 with h1 | h0
                · have e : μ = 75 := by omega
                  subst e
                  exact zmm_75
                · rcases Nat.lt_or_ge μ 77 with h1 | h0
                  · have e : μ = 76 := by omega
                    subst e
                    exact zmm_76
                  · have e : μ = 77 := by omega
                    subst e
                    exact zmm_77
            · rcases Nat.lt_or_ge μ 81 with h1 | h0
              · rcases Nat.lt_or_ge μ 79 with h1 | h0
                · have e : μ = 78 := by omega
                  subst e
                  exact zmm_78
                · rcases Nat.lt_or_ge μ 80 with h1 | h0
                  · have e : μ = 79 := by omega
                    subst e
                    exact zmm_79
                  · have e : μ = 80 := by omega
                    subst e
                    exact zmm_80
              · rcases Nat.lt_or_ge μ 82 with h1 | h0
                · have e : μ = 81 := by omega
                  subst e
                  exact zmm_81
                · rcases Nat.lt_or_ge μ 83 with h1 | h0
                  · have e : μ = 82 := by omega
                    subst e
                    exact zmm_82
                  · have e : μ = 83 := by omega
                    subst e
                    exact zmm_83
    · rcases Nat.lt_or_ge μ 126 with h1 | h0
      · rcases Nat.lt_or_ge μ 105 with h1 | h0
        · rcases Nat.lt_or_ge μ 94 with h1 | h0
          · rcases Nat.lt_or_ge μ 89 with h1 | h0
            · rcases Nat.lt_or_ge μ 86 with h1 | h0
              · rcases Nat.lt_or_ge μ 85 with h1 | h0
                · have e : μ = 84 := by omega
                  subst e
                  exact zmm_84
                · have e : μ = 85 := by omega
                  subst e
                  exact zmm_85
              · rcases Nat.lt_or_ge μ 87 with h1 | h0
                · have e : μ = 86 := by omega
                  subst e
                  exact zmm_86
                · rcases Nat.lt_or_ge μ 88 with h1 | h0
                  · have e : μ = 87 := by omega
                    subst e
                    exact zmm_87
                  · have e : μ = 88 := by omega
                    subst e
                    exact zmm_88
            · rcases Nat.lt_or_ge μ 91 with h1 | h0
              · rcases Nat.lt_or_ge μ 90 with h1 | h0
                · have e : μ = 89 := by omega
                  subst e
                  exact zmm_89
                · have e : μ = 90 := by omega
                  subst e
                  exact zmm_90
              · rcases Nat.lt_or_ge μ 92 with h1 | h0
                · have e : μ = 91 := by omega
                  subst e
                  exact zmm_91
                · rcases Nat.lt_or_ge μ 93 with h1 | h0
                  · have e : μ = 92 := by omega
                    subst e
                    exact zmm_92
                  · have e : μ = 93 := by omega
                    subst e
                    exact zmm_93
          · rcases Nat.lt_or_ge μ 99 with h1 | h0
            · rcases Nat.lt_or_ge μ 96 with h1 | h0
              · rcases Nat.lt_or_ge μ 95 with h1 | h0
                · have e : μ = 94 := by omega
                  subst e
                  exact zmm_94
                · have e : μ = 95 := by omega
                  subst e
                  exact zmm_95
              · rcases Nat.lt_or_ge μ 97 with h1 | h0
                · have e : μ = 96 := by omega
                  subst e
                  exact zmm_96
                · rcases Nat.lt_or_ge μ 98 with h1 | h0
                  · have e : μ = 97 := by omega
                    subst e
                    exact zmm_97
                  · have e : μ = 98 := by omega
                    subst e
                    exact zmm_98
            · rcases Nat.lt_or_ge μ 102 with h1 | h0
              · rcases Nat.lt_or_ge μ 100 with h1 | h0
                · have e : μ = 99 := by omega
                  subst e
                  exact zmm_99
                · rcases Nat.lt_or_ge μ 101 with h1 | h0
                  · have e : μ = 100 := by omega
                    subst e
                    exact zmm_100
                  · have e : μ = 101 := by omega
                    subst e
                    exact zmm_101
              · rcases Nat.lt_or_ge μ 103 with h1 | h0
                · have e : μ = 102 := by omega
                  subst e
                  exact zmm_102
                · rcases Nat.lt_or_ge μ 104 with h1 | h0
                  · have e : μ = 103 := by omega
                    subst e
                    exact zmm_103
                  · have e : μ = 104 := by omega
                    subst e
                    exact zmm_104
        · rcases Nat.lt_or_ge μ 115 with h1 | h0
          · rcases Nat.lt_or_ge μ 110 with h1 | h0
            · rcases Nat.lt_or_ge μ 107 with h1 | h0
              · rcases Nat.lt_or_ge μ 106 with h1 | h0
                · have e : μ = 105 := by omega
                  subst e
                  exact zmm_105
                · have e : μ = 106 := by omega
                  subst e
                  exact zmm_106
              · rcases Nat.lt_or_ge μ 108 with h1 | h0
                · have e : μ = 107 := by omega
                  subst e
                  exact zmm_107
                · rcases Nat.lt_or_ge μ 109 with h1 | h0
                  · have e : μ = 108 := by omega
                    subst e
                    exact zmm_108
                  · have e : μ = 109 := by omega
                    subst e
                    exact zmm_109
            · rcases Nat.lt_or_ge μ 112 with h1 | h0
              · rcases Nat.lt_or_ge μ 111 with h1 | h0
                · have e : μ = 110 := by omega
                  subst e
                  exact zmm_110
                · have e : μ = 111 := by omega
                  subst e
                  exact zmm_111
              · rcases Nat.lt_or_ge μ 113 with h1 | h0
                · have e : μ = 112 := by omega
                  subst e
                  exact zmm_112
                · rcases Nat.lt_or_ge μ 114 with h1 | h0
                  · have e : μ = 113 := by omega
                    subst e
                    exact zmm_113
                  · have e : μ = 114 := by omega
                    subst e
                    exact zmm_114
          · rcases Nat.lt_or_ge μ 120 with h1 | h0
            · rcases Nat.lt_or_ge μ 117 with h1 | h0
              · rcases Nat.lt_or_ge μ 116 with h1 | h0
                · have e : μ = 115 := by omega
                  subst e
                  exact zmm_115
                · have e : μ = 116 := by omega
                  subst e
                  exact zmm_116
              · rcases Nat.lt_or_ge μ 118 with h1 | h0
                · have e : μ = 117 := by omega
                  subst e
                  exact zmm_117
                · rcases Nat.lt_or_ge μ 119 with h1 | h0
                  · have e : μ = 118 := by omega
                    subst e
                    exact zmm_118
                  · have e : μ = 119 := by omega
                    subst e
                    exact zmm_119
            · rcases Nat.lt_or_ge μ 123 with h1 | h0
              · rcases Nat.lt_or_ge μ 121 with h1 | h0
                · have e : μ = 120 := by omega
                  subst e
                  exact zmm_120
                · rcases Nat.lt_or_ge μ 122 with h1 | h0
                  · have e : μ = 121 := by omega
                    subst e
                    exact zmm_121
                  · have e : μ = 122 := by omega
                    subst e
                    exact zmm_122
              · rcases Nat.lt_or_ge μ 124 with h1 | h0
                · have e : μ = 123 := by omega
                  subst e
                  exact zmm_123
                · rcases Nat.lt_or_ge μ 125 with h1 | h0
                  · have e : μ = 124 := by omega
                    subst e
                    exact zmm_124
                  · have e : μ = 125 := by omega
                    subst e
                    exact zmm_125
      · rcases Nat.lt_or_ge μ 147 with h1 | h0
        · rcases Nat.lt_or_ge μ 136 with h1 | h0
          · rcases Nat.lt_or_ge μ 131 with h1 | h0
            · rcases Nat.lt_or_ge μ 128 with h1 | h0
              · rcases Nat.lt_or_ge μ 127 with h1 | h0
                · have e : μ = 126 := by omega
                  subst e
                  exact zmm_126
                · have e : μ = 127 := by omega
                  subst e
                  exact zmm_127
              · rcases Nat.lt_or_ge μ 129 with h1 | h0
                · have e : μ = 128 := by omega
                  subst e
                  exact zmm_128
                · rcases Nat.lt_or_ge μ 130 with h1 | h0
                  · have e : μ = 129 := by omega
                    subst e
                    exact zmm_129
                  · have e : μ = 130 := by omega
                    subst e
                    exact zmm_130
            · rcases Nat.lt_or_ge μ 133 with h1 | h0
              · rcases Nat.lt_or_ge μ 132 with h1 | h0
                · have e : μ = 131 := by omega
                  subst e
                  exact zmm_131
                · have e : μ = 132 := by omega
                  subst e
                  exact zmm_132
              · rcases Nat.lt_or_ge μ 134 with h1 | h0
                · have e : μ = 133 := by omega
                  subst e
                  exact zmm_133
                · rcases Nat.lt_or_ge μ 135 with h1 | h0
                  · have e : μ = 134 := by omega
                    subst e
                    exact zmm_134
                  · have e : μ = 135 := by omega
                    subst e
                    exact zmm_135
          · rcases Nat.lt_or_ge μ 141 with h1 | h0
            · rcases Nat.lt_or_ge μ 138 with h1 | h0
              · rcases Nat.lt_or_ge μ 137 with h1 | h0
                · have e : μ = 136 := by omega
                  subst e
                  exact zmm_136
                · have e : μ = 137 := by omega
                  subst e
                  exact zmm_137
              · rcases Nat.lt_or_ge μ 139 with h1 | h0
                · have e : μ = 138 := by omega
                  subst e
                  exact zmm_138
                · rcases Nat.lt_or_ge μ 140 with h1 | h0
                  · have e : μ = 139 := by omega
                    subst e
                    exact zmm_139
                  · have e : μ = 140 := by omega
                    subst e
                    exact zmm_140
            · rcases Nat.lt_or_ge μ 144 with h1 | h0
              · rcases Nat.lt_or_ge μ 142 with h1 | h0
                · have e : μ = 141 := by omega
                  subst e
                  exact zmm_141
                · rcases Nat.lt_or_ge μ 143 with h1 | h0
                  · have e : μ = 142 := by omega
                    subst e
                    exact zmm_142
                  · have e : μ = 143 := by omega
                    subst e
                    exact zmm_143
              · rcases Nat.lt_or_ge μ 145 with h1 | h0
                · have e : μ = 144 := by omega
                  subst e
                  exact zmm_144
                · rcases Nat.lt_or_ge μ 146 with h1 | h0
                  · have e : μ = 145 := by omega
                    subst e
                    exact zmm_145
                  · have e : μ = 146 := by omega
                    subst e
                    exact zmm_146
        · rcases Nat.lt_or_ge μ 157 with h1 | h0
          · rcases Nat.lt_or_ge μ 152 with h1 | h0
            · rcases Nat.lt_or_ge μ 149 with h1 | h0
              · rcases Nat.lt_or_ge μ 148 with h1 | h0
                · have e : μ = 147 := by omega
                  subst e
                  exact zmm_147
                · have e : μ = 148 := by omega
                  subst e
                  exact zmm_148
              · rcases Nat.lt_or_ge μ 150 with h1 | h0
                · have e : μ = 149 := by omega
                  subst e
                  exact zmm_149
                · rcases Nat.lt_or_ge μ 151 with h1 | h0
                  · have e : μ = 150 := by omega
                    subst e
                    exact zmm_150
                  · have e : μ = 151 := by omega
                    subst e
                    exact zmm_151
            · rcases Nat.lt_or_ge μ 154 with h1 | h0
              · rcases Nat.lt_or_ge μ 153 with h1 | h0
                · have e : μ = 152 := by omega
                  subst e
                  exact zmm_152
                · have e : μ = 153 := by omega
                  subst e
                  exact zmm_153
              · rcases Nat.lt_or_ge μ 155 with h1 | h0
                · have e : μ = 154 := by omega
                  subst e
                  exact zmm_154
                · rcases Nat.lt_or_ge μ 156 with h1 | h0
                  · have e : μ = 155 := by omega
                    subst e
                    exact zmm_155
                  · have e : μ = 156 := by omega
                    subst e
                    exact zmm_156
          · rcases Nat.lt_or_ge μ 162 with h1 | h0
            · rcases Nat.lt_or_ge μ 159 with h1 | h0
              · rcases Nat.lt_or_ge μ 158 with h1 | h0
                · have e : μ = 157 := by omega
                  subst e
                  exact zmm_157
                · have e : μ = 158 := by omega
                  subst e
                  exact zmm_158
              · rcases Nat.lt_or_ge μ 160 with h1 | h0
                · have e : μ = 159 := by omega
                  subst e
                  exact zmm_159
                · rcases Nat.lt_or_ge μ 161 with h1 | h0
                  · have e : μ = 160 := by omega
                    subst e
                    exact zmm_160
                  · have e : μ = 161 := by omega
                    subst e
                    exact zmm_161
            · rcases Nat.lt_or_ge μ 165 with h1 | h0
              · rcases Nat.lt_or_ge μ 163 with h1 | h0
                · have e : μ = 162 := by omega
                  subst e
                  exact zmm_162
                · rcases Nat.lt_or_ge μ 164 with h1 | h0
                  · have e : μ = 163 := by omega
                    subst e
                    exact zmm_163
                  · have e : μ = 164 := by omega
                    subst e
                    exact zmm_164
              · rcases Nat.lt_or_ge μ 166 with h1 | h0
                · have e : μ = 165 := by omega
                  subst e
                  exact zmm_165
                · rcases Nat.lt_or_ge μ 167 with h1 | h0
                  · have e : μ = 166 := by omega
                    subst e
                    exact zmm_166
                  · have e : μ = 167 := by omega
                    subst e
                    exact zmm_167
  · rcases Nat.lt_or_ge μ 251 with h1 | h0
    · rcases Nat.lt_or_ge μ 209 with h1 | h0
      · rcases Nat.lt_or_ge μ 188 with h1 | h0
        · rcases Nat.lt_or_ge μ 178 with h1 | h0
          · rcases Nat.lt_or_ge μ 173 with h1 | h0
            · rcases Nat.lt_or_ge μ 170 with h1 | h0
              · rcases Nat.lt_or_ge μ 169 with h1 | h0
                · have e : μ = 168 := by omega
                  subst e
                  exact zmm_168
                · have e : μ = 169 := by omega
                  subst e
                  exact zmm_169
              · rcases Nat.lt_or_ge μ 171 with h1 | h0
                · have e : μ = 170 := by omega
                  subst e
                  exact zmm_170
                · rcases Nat.lt_or_ge μ 172 with h1 | h0
                  · have e : μ = 171 := by omega
                    subst e
                    exact zmm_171
                  · have e : μ = 172 := by omega
                    subst e
                    exact zmm_172
            · rcases Nat.lt_or_ge μ 175 with h1 | h0
              · rcases Nat.lt_or_ge μ 174 with h1 | h0
                · have e : μ = 173 := by omega
                  subst e
                  exact zmm_173
                · have e : μ = 174 := by omega
                  subst e
                  exact zmm_174
              · rcases Nat.lt_or_ge μ 176 with h1 | h0
                · have e : μ = 175 := by omega
                  subst e
                  exact zmm_175
                · rcases Nat.lt_or_ge μ 177 with h1 | h0
                  · have e : μ = 176 := by omega
                    subst e
                    exact zmm_176
                  · have e : μ = 177 := by omega
                    subst e
                    exact zmm_177
          · rcases Nat.lt_or_ge μ 183 with h1 | h0
            · rcases Nat.lt_or_ge μ 180 with h1 | h0
              · rcases Nat.lt_or_ge μ 179 with h1 | h0
                · have e : μ = 178 := by omega
                  subst e
                  exact zmm_178
                · have e : μ = 179 := by omega
                  subst e
                  exact zmm_179
              · rcases Nat.lt_or_ge μ 181 with h1 | h0
                · have e : μ = 180 := by omega
                  subst e
                  exact zmm_180
                · rcases Nat.lt_or_ge μ 182 with h1 | h0
                  · have e : μ = 181 := by omega
                    subst e
                    exact zmm_181
                  · have e : μ = 182 := by omega
                    subst e
                    exact zmm_182
            · rcases Nat.lt_or_ge μ 185 with h1 | h0
              · rcases Nat.lt_or_ge μ 184 with h1 | h0
                · have e : μ = 183 := by omega
                  subst e
                  exact zmm_183
                · have e : μ = 184 := by omega
                  subst e
                  exact zmm_184
              · rcases Nat.lt_or_ge μ 186 with h1 | h0
                · have e : μ = 185 := by omega
                  subst e
                  exact zmm_185
                · rcases Nat.lt_or_ge μ 187 with h1 | h0
                  · have e : μ = 186 := by omega
                    subst e
                    exact zmm_186
                  · have e : μ = 187 := by omega
                    subst e
                    exact zmm_187
        · rcases Nat.lt_or_ge μ 198 with h1 | h0
          · rcases Nat.lt_or_ge μ 193 with h1 | h0
            · rcases Nat.lt_or_ge μ 190 with h1 | h0
              · rcases Nat.lt_or_ge μ 189 with h1 | h0
                · have e : μ = 188 := by omega
                  subst e
                  exact zmm_188
                · have e : μ = 189 := by omega
                  subst e
                  exact zmm_189
              · rcases Nat.lt_or_ge μ 191 with h1 | h0
                · have e : μ = 190 := by omega
                  subst e
                  exact zmm_190
                · rcases Nat.lt_or_ge μ 192 with h1 | h0
                  · have e : μ = 191 := by omega
                    subst e
                    exact zmm_191
                  · have e : μ = 192 := by omega
                    subst e
                    exact zmm_192
            · rcases Nat.lt_or_ge μ 195 with h1 | h0
              · rcases Nat.lt_or_ge μ 194 with h1 | h0
                · have e : μ = 193 := by omega
                  subst e
                  exact zmm_193
                · have e : μ = 194 := by omega
                  subst e
                  exact zmm_194
              · rcases Nat.lt_or_ge μ 196 with h1 | h0
                · have e : μ = 195 := by omega
                  subst e
                  exact zmm_195
                · rcases Nat.lt_or_ge μ 197 with h1 | h0
                  · have e : μ = 196 := by omega
                    subst e
                    exact zmm_196
                  · have e : μ = 197 := by omega
                    subst e
                    exact zmm_197
          · rcases Nat.lt_or_ge μ 203 with h1 | h0
            · rcases Nat.lt_or_ge μ 200 with h1 | h0
              · rcases Nat.lt_or_ge μ 199 with h1 | h0
                · have e : μ = 198 := by omega
                  subst e
                  exact zmm_198
                · have e : μ = 199 := by omega
                  subst e
                  exact zmm_199
              · rcases Nat.lt_or_ge μ 201 with h1 | h0
                · have e : μ = 200 := by omega
                  subst e
                  exact zmm_200
                · rcases Nat.lt_or_ge μ 202 with h1 | h0
                  · have e : μ = 201 := by omega
                    subst e
                    exact zmm_201
                  · have e : μ = 202 := by omega
                    subst e
                    exact zmm_202
            · rcases Nat.lt_or_ge μ 206 with h1 | h0
              · rcases Nat.lt_or_ge μ 204 with h1 | h0
                · have e : μ = 203 := by omega
                  subst e
                  exact zmm_203
                · rcases Nat.lt_or_ge μ 205 with h1 | h0
                  · have e : μ = 204 := by omega
                    subst e
                    exact zmm_204
                  · have e : μ = 205 := by omega
                    subst e
                    exact zmm_205
              · rcases Nat.lt_or_ge μ 207 with h1 | h0
                · have e : μ = 206 := by omega
                  subst e
                  exact zmm_206
                · rcases Nat.lt_or_ge μ 208 with h1 | h0
                  · have e : μ = 207 := by omega
                    subst e
                    exact zmm_207
                  · have e : μ = 208 := by omega
                    subst e
                    exact zmm_208
      · rcases Nat.lt_or_ge μ 230 with h1 | h0
        · rcases Nat.lt_or_ge μ 219 with h1 | h0
          · rcases Nat.lt_or_ge μ 214 with h1 | h0
            · rcases Nat.lt_or_ge μ 211 with h1 | h0
              · rcases Nat.lt_or_ge μ 210 with h1 | h0
                · have e : μ = 209 := by omega
                  subst e
                  exact zmm_209
                · have e : μ = 210 := by omega
                  subst e
                  exact zmm_210
              · rcases Nat.lt_or_ge μ 212 with h1 | h0
                · have e : μ = 211 := by omega
                  subst e
                  exact zmm_211
                · rcases Nat.lt_or_ge μ 213 with h1 | h0
                  · have e : μ = 212 := by omega
                    subst e
                    exact zmm_212
                  · have e : μ = 213 := by omega
                    subst e
                    exact zmm_213
            · rcases Nat.lt_or_ge μ 216 with h1 | h0
              · rcases Nat.lt_or_ge μ 215 with h1 | h0
                · have e : μ = 214 := by omega
                  subst e
                  exact zmm_214
                · have e : μ = 215 := by omega
                  subst e
                  exact zmm_215
              · rcases Nat.lt_or_ge μ 217 with h1 | h0
                · have e : μ = 216 := by omega
                  subst e
                  exact zmm_216
                · rcases Nat.lt_or_ge μ 218 with h1 | h0
                  · have e : μ = 217 := by omega
                    subst e
                    exact zmm_217
                  · have e : μ = 218 := by omega
                    subst e
                    exact zmm_218
          · rcases Nat.lt_or_ge μ 224 with h1 | h0
            · rcases Nat.lt_or_ge μ 221 with h1 | h0
              · rcases Nat.lt_or_ge μ 220 with h1 | h0
                · have e : μ = 219 := by omega
                  subst e
                  exact zmm_219
                · have e : μ = 220 := by omega
                  subst e
                  exact zmm_220
              · rcases Nat.lt_or_ge μ 222 with h1 | h0
                · have e : μ = 221 := by omega
                  subst e
                  exact zmm_221
                · rcases Nat.lt_or_ge μ 223 with h1 | h0
                  · have e : μ = 222 := by omega
                    subst e
                    exact zmm_222
                  · have e : μ = 223 := by omega
                    subst e
                    exact zmm_223
            · rcases Nat.lt_or_ge μ 227 with h1 | h0
              · rcases Nat.lt_or_ge μ 225 with h1 | h0
                · have e : μ = 224 := by omega
                  subst e
                  exact zmm_224
                · rcases Nat.lt_or_ge μ 226 with h1 | h0
                  · have e : μ = 225 := by omega
                    subst e
                    exact zmm_225
                  · have e : μ = 226 := by omega
                    subst e
                    exact zmm_226
              · rcases Nat.lt_or_ge μ 228 with h1 | h0
                · have e : μ = 227 := by omega
                  subst e
                  exact zmm_227
                · rcases Nat.lt_or_ge μ 229 with h1 | h0
                  · have e : μ = 228 := by omega
                    subst e
                    exact zmm_228
                  · have e : μ = 229 := by omega
                    subst e
                    exact zmm_229
        · rcases Nat.lt_or_ge μ 240 with h1 | h0
          · rcases Nat.lt_or_ge μ 235 with h1 | h0
            · rcases Nat.lt_or_ge μ 232 with h1 | h0
              · rcases Nat.lt_or_ge μ 231 with h1 | h0
                · have e : μ = 230 := by omega
                  subst e
                  exact zmm_230
                · have e : μ = 231 := by omega
                  subst e
                  exact zmm_231
              · rcases Nat.lt_or_ge μ 233 with h1 | h0
                · have e : μ = 232 := by omega
                  subst e
                  exact zmm_232
                · rcases Nat.lt_or_ge μ 234 with h1 | h0
                  · have e : μ = 233 := by omega
                    subst e
                    exact zmm_233
                  · have e : μ = 234 := by omega
                    subst e
                    exact zmm_234
            · rcases Nat.lt_or_ge μ 237 with h1 | h0
              · rcases Nat.lt_or_ge μ 236 with h1 | h0
                · have e : μ = 235 := by omega
                  subst e
                  exact zmm_235
                · have e : μ = 236 := by omega
                  subst e
                  exact zmm_236
              · rcases Nat.lt_or_ge μ 238 with h1 | h0
                · have e : μ = 237 := by omega
                  subst e
                  exact zmm_237
                · rcases Nat.lt_or_ge μ 239 with h1 | h0
                  · have e : μ = 238 := by omega
                    subst e
                    exact zmm_238
                  · have e : μ = 239 := by omega
                    subst e
                    exact zmm_239
          · rcases Nat.lt_or_ge μ 245 with h1 | h0
            · rcases Nat.lt_or_ge μ 242 with h1 | h0
              · rcases Nat.lt_or_ge μ 241 with h1 | h0
                · have e : μ = 240 := by omega
                  subst e
                  exact zmm_240
                · have e : μ = 241 := by omega
                  subst e
                  exact zmm_241
              · rcases Nat.lt_or_ge μ 243 with h1 | h0
                · have e : μ = 242 := by omega
                  subst e
                  exact zmm_242
                · rcases Nat.lt_or_ge μ 244 with h1 | h0
                  · have e : μ = 243 := by omega
                    subst e
                    exact zmm_243
                  · have e : μ = 244 := by omega
                    subst e
                    exact zmm_244
            · rcases Nat.lt_or_ge μ 248 with h1 | h0
              · rcases Nat.lt_or_ge μ 246 with h1 | h0
                · have e : μ = 245 := by omega
                  subst e
                  exact zmm_245
                · rcases Nat.lt_or_ge μ 247 with h1 | h0
                  · have e : μ = 246 := by omega
                    subst e
                    exact zmm_246
                  · have e : μ = 247 := by omega
                    subst e
                    exact zmm_247
              · rcases Nat.lt_or_ge μ 249 with h1 | h0
                · have e : μ = 248 := by omega
                  subst e
                  exact zmm_248
                · rcases Nat.lt_or_ge μ 250 with h1 | h0
                  · have e : μ = 249 := by omega
                    subst e
                    exact zmm_249
                  · have e : μ = 250 := by omega
                    subst e
                    exact zmm_250
    · rcases Nat.lt_or_ge μ 293 with h1 | h0
      · rcases Nat.lt_or_ge μ 272 with h1 | h0
        · rcases Nat.lt_or_ge μ 261 with h1 | h0
          · rcases Nat.lt_or_ge μ 256 with h1 | h0
            · rcases Nat.lt_or_ge μ 253 with h1 | h0
              · rcases Nat.lt_or_ge μ 252 with h1 | h0
                · have e : μ = 251 := by omega
                  subst e
                  exact zmm_251
                · have e : μ = 252 := by omega
                  subst e
                  exact zmm_252
              · rcases Nat.lt_or_ge μ 254 with h1 | h0
                · have e : μ = 253 := by omega
                  subst e
                  exact zmm_253
                · rcases Nat.lt_or_ge μ 255 with h1 | h0
                  · have e : μ = 254 := by omega
                    subst e
                    exact zmm_254
                  · have e : μ = 255 := by omega
                    subst e
                    exact zmm_255
            · rcases Nat.lt_or_ge μ 258 with h1 | h0
              · rcases Nat.lt_or_ge μ 257 with h1 | h0
                · have e : μ = 256 := by omega
                  subst e
                  exact zmm_256
                · have e : μ = 257 := by omega
                  subst e
                  exact zmm_257
              · rcases Nat.lt_or_ge μ 259 with h1 | h0
                · have e : μ = 258 := by omega
                  subst e
                  exact zmm_258
                · rcases Nat.lt_or_ge μ 260 with h1 | h0
                  · have e : μ = 259 := by omega
                    subst e
                    exact zmm_259
                  · have e : μ = 260 := by omega
                    subst e
                    exact zmm_260
          · rcases Nat.lt_or_ge μ 266 with h1 | h0
            · rcases Nat.lt_or_ge μ 263 with h1 | h0
              · rcases Nat.lt_or_ge μ 262 with h1 | h0
                · have e : μ = 261 := by omega
                  subst e
                  exact zmm_261
                · have e : μ = 262 := by omega
                  subst e
                  exact zmm_262
              · rcases Nat.lt_or_ge μ 264 with h1 | h0
                · have e : μ = 263 := by omega
                  subst e
                  exact zmm_263
                · rcases Nat.lt_or_ge μ 265 with h1 | h0
                  · have e : μ = 264 := by omega
                    subst e
                    exact zmm_264
                  · have e : μ = 265 := by omega
                    subst e
                    exact zmm_265
            · rcases Nat.lt_or_ge μ 269 with h1 | h0
              · rcases Nat.lt_or_ge μ 267 with h1 | h0
                · have e : μ = 266 := by omega
                  subst e
                  exact zmm_266
                · rcases Nat.lt_or_ge μ 268 with h1 | h0
                  · have e : μ = 267 := by omega
                    subst e
                    exact zmm_267
                  · have e : μ = 268 := by omega
                    subst e
                    exact zmm_268
              · rcases Nat.lt_or_ge μ 270 with h1 | h0
                · have e : μ = 269 := by omega
                  subst e
                  exact zmm_269
                · rcases Nat.lt_or_ge μ 271 with h1 | h0
                  · have e : μ = 270 := by omega
                    subst e
                    exact zmm_270
                  · have e : μ = 271 := by omega
                    subst e
                    exact zmm_271
        · rcases Nat.lt_or_ge μ 282 with h1 | h0
          · rcases Nat.lt_or_ge μ 277 with h1 | h0
            · rcases Nat.lt_or_ge μ 274 with h1 | h0
              · rcases Nat.lt_or_ge μ 273 with h1 | h0
                · have e : μ = 272 := by omega
                  subst e
                  exact zmm_272
                · have e : μ = 273 := by omega
                  subst e
                  exact zmm_273
              · rcases Nat.lt_or_ge μ 275 with h1 | h0
                · have e : μ = 274 := by omega
                  subst e
                  exact zmm_274
                · rcases Nat.lt_or_ge μ 276 with h1 | h0
                  · have e : μ = 275 := by omega
                    subst e
                    exact zmm_275
                  · have e : μ = 276 := by omega
                    subst e
                    exact zmm_276
            · rcases Nat.lt_or_ge μ 279 with h1 | h0
              · rcases Nat.lt_or_ge μ 278 with h1 | h0
                · have e : μ = 277 := by omega
                  subst e
                  exact zmm_277
                · have e : μ = 278 := by omega
                  subst e
                  exact zmm_278
              · rcases Nat.lt_or_ge μ 280 with h1 | h0
                · have e : μ = 279 := by omega
                  subst e
                  exact zmm_279
                · rcases Nat.lt_or_ge μ 281 with h1 | h0
                  · have e : μ = 280 := by omega
                    subst e
                    exact zmm_280
                  · have e : μ = 281 := by omega
                    subst e
                    exact zmm_281
          · rcases Nat.lt_or_ge μ 287 with h1 | h0
            · rcases Nat.lt_or_ge μ 284 with h1 | h0
              · rcases Nat.lt_or_ge μ 283 with h1 | h0
                · have e : μ = 282 := by omega
                  subst e
                  exact zmm_282
                · have e : μ = 283 := by omega
                  subst e
                  exact zmm_283
              · rcases Nat.lt_or_ge μ 285 with h1 | h0
                · have e : μ = 284 := by omega
                  subst e
                  exact zmm_284
                · rcases Nat.lt_or_ge μ 286 with h1 | h0
                  · have e : μ = 285 := by omega
                    subst e
                    exact zmm_285
                  · have e : μ = 286 := by omega
                    subst e
                    exact zmm_286
            · rcases Nat.lt_or_ge μ 290 with h1 | h0
              · rcases Nat.lt_or_ge μ 288 with h1 | h0
                · have e : μ = 287 := by omega
                  subst e
                  exact zmm_287
                · rcases Nat.lt_or_ge μ 289 with h1 | h0
                  · have e : μ = 288 := by omega
                    subst e
                    exact zmm_288
                  · have e : μ = 289 := by omega
                    subst e
                    exact zmm_289
              · rcases Nat.lt_or_ge μ 291 with h1 | h0
                · have e : μ = 290 := by omega
                  subst e
                  exact zmm_290
                · rcases Nat.lt_or_ge μ 292 with h1 | h0
                  · have e : μ = 291 := by omega
                    subst e
                    exact zmm_291
                  · have e : μ = 292 := by omega
                    subst e
                    exact zmm_292
      · rcases Nat.lt_or_ge μ 314 with h1 | h0
        · rcases Nat.lt_or_ge μ 303 with h1 | h0
          · rcases Nat.lt_or_ge μ 298 with h1 | h0
            · rcases Nat.lt_or_ge μ 295 with h1 | h0
              · rcases Nat.lt_or_ge μ 294 with h1 | h0
                · have e : μ = 293 := by omega
                  subst e
                  exact zmm_293
                · have e : μ = 294 := by omega
                  subst e
                  exact zmm_294
              · rcases Nat.lt_or_ge μ 296 with h1 | h0
                · have e : μ = 295 := by omega
                  subst e
                  exact zmm_295
                · rcases Nat.lt_or_ge μ 297 with h1 | h0
                  · have e : μ = 296 := by omega
                    subst e
                    exact zmm_296
                  · have e : μ = 297 := by omega
                    subst e
                    exact zmm_297
            · rcases Nat.lt_or_ge μ 300 with h1 | h0
              · rcases Nat.lt_or_ge μ 299 with h1 | h0
                · have e : μ = 298 := by omega
                  subst e
                  exact zmm_298
                · have e : μ = 299 := by omega
                  subst e
                  exact zmm_299
              · rcases Nat.lt_or_ge μ 301 with h1 | h0
                · have e : μ = 300 := by omega
                  subst e
                  exact zmm_300
                · rcases Nat.lt_or_ge μ 302 with h1 | h0
                  · have e : μ = 301 := by omega
                    subst e
                    exact zmm_301
                  · have e : μ = 302 := by omega
                    subst e
                    exact zmm_302
          · rcases Nat.lt_or_ge μ 308 with h1 | h0
            · rcases Nat.lt_or_ge μ 305 with h1 | h0
              · rcases Nat.lt_or_ge μ 304 with h1 | h0
                · have e : μ = 303 := by omega
                  subst e
                  exact zmm_303
                · have e : μ = 304 := by omega
                  subst e
                  exact zmm_304
              · rcases Nat.lt_or_ge μ 306 with h1 | h0
                · have e : μ = 305 := by omega
                  subst e
                  exact zmm_305
                · rcases Nat.lt_or_ge μ 307 with h1 | h0
                  · have e : μ = 306 := by omega
                    subst e
                    exact zmm_306
                  · have e : μ = 307 := by omega
                    subst e
                    exact zmm_307
            · rcases Nat.lt_or_ge μ 311 with h1 | h0
              · rcases Nat.lt_or_ge μ 309 with h1 | h0
                · have e : μ = 308 := by omega
                  subst e
                  exact zmm_308
                · rcases Nat.lt_or_ge μ 310 with h1 | h0
                  · have e : μ = 309 := by omega
                    subst e
                    exact zmm_309
                  · have e : μ = 310 := by omega
                    subst e
                    exact zmm_310
              · rcases Nat.lt_or_ge μ 312 with h1 | h0
                · have e : μ = 311 := by omega
                  subst e
                  exact zmm_311
                · rcases Nat.lt_or_ge μ 313 with h1 | h0
                  · have e : μ = 312 := by omega
                    subst e
                    exact zmm_312
                  · have e : μ = 313 := by omega
                    subst e
                    exact zmm_313
        · rcases Nat.lt_or_ge μ 324 with h1 | h0
          · rcases Nat.lt_or_ge μ 319 with h1 | h0
            · rcases Nat.lt_or_ge μ 316 with h1 | h0
              · rcases Nat.lt_or_ge μ 315 with h1 | h0
                · have e : μ = 314 := by omega
                  subst e
                  exact zmm_314
                · have e : μ = 315 := by omega
                  subst e
                  exact zmm_315
              · rcases Nat.lt_or_ge μ 317 with h1 | h0
                · have e : μ = 316 := by omega
                  subst e
                  exact zmm_316
                · rcases Nat.lt_or_ge μ 318 with h1 | h0
                  · have e : μ = 317 := by omega
                    subst e
                    exact zmm_317
                  · have e : μ = 318 := by omega
                    subst e
                    exact zmm_318
            · rcases Nat.lt_or_ge μ 321 with h1 | h0
              · rcases Nat.lt_or_ge μ 320 with h1 | h0
                · have e : μ = 319 := by omega
                  subst e
                  exact zmm_319
                · have e : μ = 320 := by omega
                  subst e
                  exact zmm_320
              · rcases Nat.lt_or_ge μ 322 with h1 | h0
                · have e : μ = 321 := by omega
                  subst e
                  exact zmm_321
                · rcases Nat.lt_or_ge μ 323 with h1 | h0
                  · have e : μ = 322 := by omega
                    subst e
                    exact zmm_322
                  · have e : μ = 323 := by omega
                    subst e
                    exact zmm_323
          · rcases Nat.lt_or_ge μ 329 with h1 | h0
            · rcases Nat.lt_or_ge μ 326 with h1 | h0
              · rcases Nat.lt_or_ge μ 325 with h1 | h0
                · have e : μ = 324 := by omega
                  subst e
                  exact zmm_324
                · have e : μ = 325 := by omega
                  subst e
                  exact zmm_325
              · rcases Nat.lt_or_ge μ 327 with h1 | h0
                · have e : μ = 326 := by omega
                  subst e
                  exact zmm_326
                · rcases Nat.lt_or_ge μ 328 with h1 | h0
                  · have e : μ = 327 := by omega
                    subst e
                    exact zmm_327
                  · have e : μ = 328 := by omega
                    subst e
                    exact zmm_328
            · rcases Nat.lt_or_ge μ 332 with h1 | h0
              · rcases Nat.lt_or_ge μ 330 with h1 | h0
                · have e : μ = 329 := by omega
                  subst e
                  exact zmm_329
                · rcases Nat.lt_or_ge μ 331 with h1 | h0
                  · have e : μ = 330 := by omega
                    subst e
                    exact zmm_330
                  · have e : μ = 331 := by omega
                    subst e
                    exact zmm_331
              · rcases Nat.lt_or_ge μ 333 with h1 | h0
                · have e : μ = 332 := by omega
                  subst e
                  exact zmm_332
                · rcases Nat.lt_or_ge μ 334 with h1 | h0
                  · have e : μ = 333 := by omega
                    subst e
                    exact zmm_333
                  · have e : μ = 334 := by omega
                    subst e
                    exact zmm_334
def zMd (ν : Nat) : Bool := decide (((parseMethodDescriptor (zY ν).desc).map (fun d => d.parameters.length + (if (zMof ν).2.2.2.1 = true then 0 else 1))) = some (zMof ν).2.1) && decide (plainName (zY ν).cls = true) && decide ((zY ν).cls ≠ "java/lang/invoke/MethodHandle" ∧ (zY ν).cls ≠ "java/lang/invoke/VarHandle")
set_option maxRecDepth 100000 in
theorem zMd_0 : (List.range' 1 7).all zMd = true := by decide +kernel
set_option maxRecDepth 100000 in
theorem zMd_8 : (List.range' 8 8).all zMd = true := by decide +kernel
set_option maxRecDepth 100000 in
theorem zMd_16 : (List.range' 16 8).all zMd = true := by decide +kernel
set_option maxRecDepth 100000 in
theorem zMd_24 : (List.range' 24 8).all zMd = true := by decide +kernel
set_option maxRecDepth 100000 in
theorem zMd_32 : (List.range' 32 8).all zMd = true := by decide +kernel
set_option maxRecDepth 100000 in
theorem zMd_40 : (List.range' 40 8).all zMd = true := by decide +kernel
set_option maxRecDepth 100000 in
theorem zMd_48 : (List.range' 48 8).all zMd = true := by decide +kernel
set_option maxRecDepth 100000 in
theorem zMd_56 : (List.range' 56 8).all zMd = true := by decide +kernel
set_option maxRecDepth 100000 in
theorem zMd_64 : (List.range' 64 8).all zMd = true := by decide +kernel
set_option maxRecDepth 100000 in
theorem zMd_72 : (List.range' 72 8).all zMd = true := by decide +kernel
set_option maxRecDepth 100000 in
theorem zMd_80 : (List.range' 80 8).all zMd = true := by decide +kernel
set_option maxRecDepth 100000 in
theorem zMd_88 : (List.range' 88 8).all zMd = true := by decide +kernel
set_option maxRecDepth 100000 in
theorem zMd_96 : (List.range' 96 8).all zMd = true := by decide +kernel
set_option maxRecDepth 100000 in
theorem zMd_104 : (List.range' 104 8).all zMd = true := by decide +kernel
set_option maxRecDepth 100000 in
theorem zMd_112 : (List.range' 112 8).all zMd = true := by decide +kernel
set_option maxRecDepth 100000 in
theorem zMd_120 : (List.range' 120 8).all zMd = true := by decide +kernel
set_option maxRecDepth 100000 in
theorem zMd_128 : (List.range' 128 8).all zMd = true := by decide +kernel
set_option maxRecDepth 100000 in
theorem zMd_136 : (List.range' 136 8).all zMd = true := by decide +kernel
set_option maxRecDepth 100000 in
theorem zMd_144 : (List.range' 144 8).all zMd = true := by decide +kernel
set_option maxRecDepth 100000 in
theorem zMd_152 : (List.range' 152 8).all zMd = true := by decide +kernel
set_option maxRecDepth 100000 in
theorem zMd_160 : (List.range' 160 8).all zMd = true := by decide +kernel
set_option maxRecDepth 100000 in
theorem zMd_168 : (List.range' 168 8).all zMd = true := by decide +kernel
set_option maxRecDepth 100000 in
theorem zMd_176 : (List.range' 176 8).all zMd = true := by decide +kernel
set_option maxRecDepth 100000 in
theorem zMd_184 : (List.range' 184 8).all zMd = true := by decide +kernel
set_option maxRecDepth 100000 in
theorem zMd_192 : (List.range' 192 8).all zMd = true := by decide +kernel
set_option maxRecDepth 100000 in
theorem zMd_200 : (List.range' 200 8).all zMd = true := by decide +kernel
set_option maxRecDepth 100000 in
theorem zMd_208 : (List.range' 208 8).all zMd = true := by decide +kernel
set_option maxRecDepth 100000 in
theorem zMd_216 : (List.range' 216 8).all zMd = true := by decide +kernel
set_option maxRecDepth 100000 in
theorem zMd_224 : (List.range' 224 8).all zMd = true := by decide +kernel
set_option maxRecDepth 100000 in
theorem zMd_232 : (List.range' 232 8).all zMd = true := by decide +kernel
set_option maxRecDepth 100000 in
theorem zMd_240 : (List.range' 240 8).all zMd = true := by decide +kernel
set_option maxRecDepth 100000 in
theorem zMd_248 : (List.range' 248 8).all zMd = true := by decide +kernel
set_option maxRecDepth 100000 in
theorem zMd_256 : (List.range' 256 8).all zMd = true := by decide +kernel
set_option maxRecDepth 100000 in
theorem zMd_264 : (List.range' 264 8).all zMd = true := by decide +kernel
set_option maxRecDepth 100000 in
theorem zMd_272 : (List.range' 272 8).all zMd = true := by decide +kernel
set_option maxRecDepth 100000 in
theorem zMd_280 : (List.range' 280 8).all zMd = true := by decide +kernel
set_option maxRecDepth 100000 in
theorem zMd_288 : (List.range' 288 8).all zMd = true := by decide +kernel
set_option maxRecDepth 100000 in
theorem zMd_296 : (List.range' 296 8).all zMd = true := by decide +kernel
set_option maxRecDepth 100000 in
theorem zMd_304 : (List.range' 304 8).all zMd = true := by decide +kernel
set_option maxRecDepth 100000 in
theorem zMd_312 : (List.range' 312 8).all zMd = true := by decide +kernel
set_option maxRecDepth 100000 in
theorem zMd_320 : (List.range' 320 8).all zMd = true := by decide +kernel
set_option maxRecDepth 100000 in
theorem zMd_328 : (List.range' 328 7).all zMd = true := by decide +kernel
set_option maxRecDepth 100000 in
theorem zMd_all {ν : Nat} (h0 : 0 < ν) (h1 : ν < 335) : zMd ν = true := by
  rcases Nat.lt_or_ge ν 8 with h | h
  · exact List.all_eq_true.mp zMd_0 ν (List.mem_range'_1.mpr ⟨by omega, by omega⟩)
  rcases Nat.lt_or_ge ν 16 with h | h
  · exact List.all_eq_true.mp zMd_8 ν (List.mem_range'_1.mpr ⟨by omega, by omega⟩)
  rcases Nat.lt_or_ge ν 24 with h | h
  · exact List.all_eq_true.mp zMd_16 ν (List.mem_range'_1.mpr ⟨by omega, by omega⟩)
  rcases Nat.lt_or_ge ν 32 with h | h
  · exact List.all_eq_true.mp zMd_24 ν (List.mem_range'_1.mpr ⟨by omega, by omega⟩)
  rcases Nat.lt_or_ge ν 40 with h | h
  · exact List.all_eq_true.mp zMd_32 ν (List.mem_range'_1.mpr ⟨by omega, by omega⟩)
  rcases Nat.lt_or_ge ν 48 with h | h
  · exact List.all_eq_true.mp zMd_40 ν (List.mem_range'_1.mpr ⟨by omega, by omega⟩)
  rcases Nat.lt_or_ge ν 56 with h | h
  · exact List.all_eq_true.mp zMd_48 ν (List.mem_range'_1.mpr ⟨by omega, by omega⟩)
  rcases Nat.lt_or_ge ν 64 with h | h
  · exact List.all_eq_true.mp zMd_56 ν (List.mem_range'_1.mpr ⟨by omega, by omega⟩)
  rcases Nat.lt_or_ge ν 72 with h | h
  · exact List.all_eq_true.mp zMd_64 ν (List.mem_range'_1.mpr ⟨by omega, by omega⟩)
  rcases Nat.lt_or_ge ν 80 with h | h
  · exact List.all_eq_true.mp zMd_72 ν (List.mem_range'_1.mpr ⟨by omega, by omega⟩)
  rcases Nat.lt_or_ge ν 88 with h | h
  · exact List.all_eq_true.mp zMd_80 ν (List.mem_range'_1.mpr ⟨by omega, by omega⟩)
  rcases Nat.lt_or_ge ν 96 with h | h
  · exact List.all_eq_true.mp zMd_88 ν (List.mem_range'_1.mpr ⟨by omega, by omega⟩)
  rcases Nat.lt_or_ge ν 104 with h | h
  · exact List.all_eq_true.mp zMd_96 ν (List.mem_range'_1.mpr ⟨by omega, by omega⟩)
  rcases Nat.lt_or_ge ν 112 with h | h
  · exact List.all_eq_true.mp zMd_104 ν (List.mem_range'_1.mpr ⟨by omega, by omega⟩)
  rcases Nat.lt_or_ge ν 120 with h | h
  · exact List.all_eq_true.mp zMd_112 ν (List.mem_range'_1.mpr ⟨by omega, by omega⟩)
  rcases Nat.lt_or_ge ν 128 with h | h
  · exact List.all_eq_true.mp zMd_120 ν (List.mem_range'_1.mpr ⟨by omega, by omega⟩)
  rcases Nat.lt_or_ge ν 136 with h | h
  · exact List.all_eq_true.mp zMd_128 ν (List.mem_range'_1.mpr ⟨by omega, by omega⟩)
  rcases Nat.lt_or_ge ν 144 with h | h
  · exact List.all_eq_true.mp zMd_136 ν (List.mem_range'_1.mpr ⟨by omega, by omega⟩)
  rcases Nat.lt_or_ge ν 152 with h | h
  · exact List.all_eq_true.mp zMd_144 ν (List.mem_range'_1.mpr ⟨by omega, by omega⟩)
  rcases Nat.lt_or_ge ν 160 with h | h
  · exact List.all_eq_true.mp zMd_152 ν (List.mem_range'_1.mpr ⟨by omega, by omega⟩)
  rcases Nat.lt_or_ge ν 168 with h | h
  · exact List.all_eq_true.mp zMd_160 ν (List.mem_range'_1.mpr ⟨by omega, by omega⟩)
  rcases Nat.lt_or_ge ν 176 with h | h
  · exact List.all_eq_true.mp zMd_168 ν (List.mem_range'_1.mpr ⟨by omega, by omega⟩)
  rcases Nat.lt_or_ge ν 184 with h | h
  · exact List.all_eq_true.mp zMd_176 ν (List.mem_range'_1.mpr ⟨by omega, by omega⟩)
  rcases Nat.lt_or_ge ν 192 with h | h
  · exact List.all_eq_true.mp zMd_184 ν (List.mem_range'_1.mpr ⟨by omega, by omega⟩)
  rcases Nat.lt_or_ge ν 200 with h | h
  · exact List.all_eq_true.mp zMd_192 ν (List.mem_range'_1.mpr ⟨by omega, by omega⟩)
  rcases Nat.lt_or_ge ν 208 with h | h
  · exact List.all_eq_true.mp zMd_200 ν (List.mem_range'_1.mpr ⟨by omega, by omega⟩)
  rcases Nat.lt_or_ge ν 216 with h | h
  · exact List.all_eq_true.mp zMd_208 ν (List.mem_range'_1.mpr ⟨by omega, by omega⟩)
  rcases Nat.lt_or_ge ν 224 with h | h
  · exact List.all_eq_true.mp zMd_216 ν (List.mem_range'_1.mpr ⟨by omega, by omega⟩)
  rcases Nat.lt_or_ge ν 232 with h | h
  · exact List.all_eq_true.mp zMd_224 ν (List.mem_range'_1.mpr ⟨by omega, by omega⟩)
  rcases Nat.lt_or_ge ν 240 with h | h
  · exact List.all_eq_true.mp zMd_232 ν (List.mem_range'_1.mpr ⟨by omega, by omega⟩)
  rcases Nat.lt_or_ge ν 248 with h | h
  · exact List.all_eq_true.mp zMd_240 ν (List.mem_range'_1.mpr ⟨by omega, by omega⟩)
  rcases Nat.lt_or_ge ν 256 with h | h
  · exact List.all_eq_true.mp zMd_248 ν (List.mem_range'_1.mpr ⟨by omega, by omega⟩)
  rcases Nat.lt_or_ge ν 264 with h | h
  · exact List.all_eq_true.mp zMd_256 ν (List.mem_range'_1.mpr ⟨by omega, by omega⟩)
  rcases Nat.lt_or_ge ν 272 with h | h
  · exact List.all_eq_true.mp zMd_264 ν (List.mem_range'_1.mpr ⟨by omega, by omega⟩)
  rcases Nat.lt_or_ge ν 280 with h | h
  · exact List.all_eq_true.mp zMd_272 ν (List.mem_range'_1.mpr ⟨by omega, by omega⟩)
  rcases Nat.lt_or_ge ν 288 with h | h
  · exact List.all_eq_true.mp zMd_280 ν (List.mem_range'_1.mpr ⟨by omega, by omega⟩)
  rcases Nat.lt_or_ge ν 296 with h | h
  · exact List.all_eq_true.mp zMd_288 ν (List.mem_range'_1.mpr ⟨by omega, by omega⟩)
  rcases Nat.lt_or_ge ν 304 with h | h
  · exact List.all_eq_true.mp zMd_296 ν (List.mem_range'_1.mpr ⟨by omega, by omega⟩)
  rcases Nat.lt_or_ge ν 312 with h | h
  · exact List.all_eq_true.mp zMd_304 ν (List.mem_range'_1.mpr ⟨by omega, by omega⟩)
  rcases Nat.lt_or_ge ν 320 with h | h
  · exact List.all_eq_true.mp zMd_312 ν (List.mem_range'_1.mpr ⟨by omega, by omega⟩)
  rcases Nat.lt_or_ge ν 328 with h | h
  · exact List.all_eq_true.mp zMd_320 ν (List.mem_range'_1.mpr ⟨by omega, by omega⟩)
  rcases Nat.lt_or_ge ν 335 with h | h
  · exact List.all_eq_true.mp zMd_328 ν (List.mem_range'_1.mpr ⟨by omega, by omega⟩)
  omega
