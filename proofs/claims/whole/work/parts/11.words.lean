set_option maxRecDepth 100000 in
theorem zch0 {w : Cond} (h : w ∈ tables_1_1) : w ∈ lw_tbl := List.mem_append_right _ (List.mem_append_left _ h)
set_option maxRecDepth 100000 in
theorem zch1 {w : Cond} (h : w ∈ tables_1_2) : w ∈ lw_tbl := List.mem_append_right _ (List.mem_append_right _ (List.mem_append_left _ h))
set_option maxRecDepth 100000 in
theorem zch2 {w : Cond} (h : w ∈ tables_1_3) : w ∈ lw_tbl := List.mem_append_right _ (List.mem_append_right _ (List.mem_append_right _ (List.mem_append_left _ h)))
set_option maxRecDepth 100000 in
theorem zch3 {w : Cond} (h : w ∈ tables_1_4) : w ∈ lw_tbl := List.mem_append_right _ (List.mem_append_right _ (List.mem_append_right _ (List.mem_append_right _ (List.mem_append_left _ h))))
set_option maxRecDepth 100000 in
theorem zch4 {w : Cond} (h : w ∈ tables_1_5) : w ∈ lw_tbl := List.mem_append_right _ (List.mem_append_right _ (List.mem_append_right _ (List.mem_append_right _ (List.mem_append_right _ (List.mem_append_left _ h)))))
set_option maxRecDepth 100000 in
theorem zch5 {w : Cond} (h : w ∈ tables_1_6) : w ∈ lw_tbl := List.mem_append_right _ (List.mem_append_right _ (List.mem_append_right _ (List.mem_append_right _ (List.mem_append_right _ (List.mem_append_right _ (List.mem_append_left _ h))))))
set_option maxRecDepth 100000 in
theorem zch6 {w : Cond} (h : w ∈ tables_1_7) : w ∈ lw_tbl := List.mem_append_right _ (List.mem_append_right _ (List.mem_append_right _ (List.mem_append_right _ (List.mem_append_right _ (List.mem_append_right _ (List.mem_append_right _ (List.mem_append_left _ h)))))))
set_option maxRecDepth 100000 in
theorem zch7 {w : Cond} (h : w ∈ tables_1_8) : w ∈ lw_tbl := List.mem_append_right _ (List.mem_append_right _ (List.mem_append_right _ (List.mem_append_right _ (List.mem_append_right _ (List.mem_append_right _ (List.mem_append_right _ (List.mem_append_right _ (List.mem_append_left _ h))))))))
set_option maxRecDepth 100000 in
theorem zch8 {w : Cond} (h : w ∈ tables_1_9) : w ∈ lw_tbl := List.mem_append_right _ (List.mem_append_right _ (List.mem_append_right _ (List.mem_append_right _ (List.mem_append_right _ (List.mem_append_right _ (List.mem_append_right _ (List.mem_append_right _ (List.mem_append_right _ h))))))))
set_option maxRecDepth 100000 in
theorem z_split {α : Type} {P : α → Prop} {l a b : List α} (h : l = a ++ b) (ha : ∀ x ∈ a, P x) (hb : ∀ x ∈ b, P x) : ∀ x ∈ l, P x := by
  subst h
  intro x hx
  rcases List.mem_append.mp hx with q | q
  · exact ha x q
  · exact hb x q
def zT3 (ci : Nat) : vw_C := vwCl.getD ci (RX0, TX0, 2)
def zFw (e : Nat × Nat × Nat × Nat) : Cond := .fieldLink (zOwnL.getD e.1 "") e.2.1 (zT3 e.2.2.1).1 ((zT3 e.2.2.1).2.1 e.2.2.2).2.1 ((zT3 e.2.2.1).2.1 e.2.2.2).2.2.1
set_option maxRecDepth 100000 in
theorem zfw_0 : zFw (0, 9, 0, 0) ∈ lw_tbl ∧ 0 < 11 ∧ 0 < (zT3 0).2.2 := ⟨zch1 (List.mem_of_getElem? (i := 77) rfl), by decide, by decide⟩
set_option maxRecDepth 100000 in
theorem zfw_1 : zFw (0, 15, 0, 1) ∈ lw_tbl ∧ 0 < 11 ∧ 1 < (zT3 0).2.2 := ⟨zch1 (List.mem_of_getElem? (i := 78) rfl), by decide, by decide⟩
set_option maxRecDepth 100000 in
theorem zfw_2 : zFw (0, 57, 6, 7) ∈ lw_tbl ∧ 6 < 11 ∧ 7 < (zT3 6).2.2 := ⟨zch0 (List.mem_of_getElem? (i := 215) rfl), by decide, by decide⟩
set_option maxRecDepth 100000 in
theorem zfw_3 : zFw (1, 9, 1, 0) ∈ lw_tbl ∧ 1 < 11 ∧ 0 < (zT3 1).2.2 := ⟨zch0 (List.mem_of_getElem? (i := 71) rfl), by decide, by decide⟩
set_option maxRecDepth 100000 in
theorem zfw_4 : zFw (1, 15, 1, 1) ∈ lw_tbl ∧ 1 < 11 ∧ 1 < (zT3 1).2.2 := ⟨zch0 (List.mem_of_getElem? (i := 72) rfl), by decide, by decide⟩
set_option maxRecDepth 100000 in
theorem zfw_5 : zFw (1, 18, 1, 2) ∈ lw_tbl ∧ 1 < 11 ∧ 2 < (zT3 1).2.2 := ⟨zch0 (List.mem_of_getElem? (i := 73) rfl), by decide, by decide⟩
set_option maxRecDepth 100000 in
theorem zfw_6 : zFw (1, 22, 1, 3) ∈ lw_tbl ∧ 1 < 11 ∧ 3 < (zT3 1).2.2 := ⟨zch0 (List.mem_of_getElem? (i := 74) rfl), by decide, by decide⟩
set_option maxRecDepth 100000 in
theorem zfw_7 : zFw (1, 25, 1, 4) ∈ lw_tbl ∧ 1 < 11 ∧ 4 < (zT3 1).2.2 := ⟨zch0 (List.mem_of_getElem? (i := 75) rfl), by decide, by decide⟩
set_option maxRecDepth 100000 in
theorem zfw_8 : zFw (1, 28, 1, 5) ∈ lw_tbl ∧ 1 < 11 ∧ 5 < (zT3 1).2.2 := ⟨zch0 (List.mem_of_getElem? (i := 76) rfl), by decide, by decide⟩
set_option maxRecDepth 100000 in
theorem zfw_9 : zFw (1, 31, 1, 6) ∈ lw_tbl ∧ 1 < 11 ∧ 6 < (zT3 1).2.2 := ⟨zch0 (List.mem_of_getElem? (i := 77) rfl), by decide, by decide⟩
set_option maxRecDepth 100000 in
theorem zfw_10 : zFw (1, 34, 1, 7) ∈ lw_tbl ∧ 1 < 11 ∧ 7 < (zT3 1).2.2 := ⟨zch0 (List.mem_of_getElem? (i := 79) rfl), by decide, by decide⟩
set_option maxRecDepth 100000 in
theorem zfw_11 : zFw (1, 37, 1, 8) ∈ lw_tbl ∧ 1 < 11 ∧ 8 < (zT3 1).2.2 := ⟨zch0 (List.mem_of_getElem? (i := 81) rfl), by decide, by decide⟩
set_option maxRecDepth 100000 in
theorem zfw_12 : zFw (1, 40, 1, 9) ∈ lw_tbl ∧ 1 < 11 ∧ 9 < (zT3 1).2.2 := ⟨zch0 (List.mem_of_getElem? (i := 83) rfl), by decide, by decide⟩
set_option maxRecDepth 100000 in
theorem zfw_13 : zFw (1, 43, 1, 10) ∈ lw_tbl ∧ 1 < 11 ∧ 10 < (zT3 1).2.2 := ⟨zch0 (List.mem_of_getElem? (i := 85) rfl), by decide, by decide⟩
set_option maxRecDepth 100000 in
theorem zfw_14 : zFw (1, 46, 1, 11) ∈ lw_tbl ∧ 1 < 11 ∧ 11 < (zT3 1).2.2 := ⟨zch0 (List.mem_of_getElem? (i := 87) rfl), by decide, by decide⟩
set_option maxRecDepth 100000 in
theorem zfw_15 : zFw (1, 55, 4, 5) ∈ lw_tbl ∧ 4 < 11 ∧ 5 < (zT3 4).2.2 := ⟨zch1 (List.mem_of_getElem? (i := 53) rfl), by decide, by decide⟩
set_option maxRecDepth 100000 in
theorem zfw_16 : zFw (1, 60, 4, 3) ∈ lw_tbl ∧ 4 < 11 ∧ 3 < (zT3 4).2.2 := ⟨zch1 (List.mem_of_getElem? (i := 46) rfl), by decide, by decide⟩
set_option maxRecDepth 100000 in
theorem zfw_17 : zFw (1, 63, 4, 4) ∈ lw_tbl ∧ 4 < 11 ∧ 4 < (zT3 4).2.2 := ⟨zch1 (List.mem_of_getElem? (i := 49) rfl), by decide, by decide⟩
set_option maxRecDepth 100000 in
theorem zfw_18 : zFw (2, 12, 2, 0) ∈ lw_tbl ∧ 2 < 11 ∧ 0 < (zT3 2).2.2 := ⟨zch0 (List.mem_of_getElem? (i := 178) rfl), by decide, by decide⟩
set_option maxRecDepth 100000 in
theorem zfw_19 : zFw (2, 18, 2, 1) ∈ lw_tbl ∧ 2 < 11 ∧ 1 < (zT3 2).2.2 := ⟨zch0 (List.mem_of_getElem? (i := 180) rfl), by decide, by decide⟩
set_option maxRecDepth 100000 in
theorem zfw_20 : zFw (3, 9, 3, 0) ∈ lw_tbl ∧ 3 < 11 ∧ 0 < (zT3 3).2.2 := ⟨zch1 (List.mem_of_getElem? (i := 23) rfl), by decide, by decide⟩
set_option maxRecDepth 100000 in
theorem zfw_21 : zFw (3, 15, 3, 1) ∈ lw_tbl ∧ 3 < 11 ∧ 1 < (zT3 3).2.2 := ⟨zch1 (List.mem_of_getElem? (i := 24) rfl), by decide, by decide⟩
set_option maxRecDepth 100000 in
theorem zfw_22 : zFw (3, 18, 3, 2) ∈ lw_tbl ∧ 3 < 11 ∧ 2 < (zT3 3).2.2 := ⟨zch1 (List.mem_of_getElem? (i := 25) rfl), by decide, by decide⟩
set_option maxRecDepth 100000 in
theorem zfw_23 : zFw (3, 24, 3, 3) ∈ lw_tbl ∧ 3 < 11 ∧ 3 < (zT3 3).2.2 := ⟨zch1 (List.mem_of_getElem? (i := 26) rfl), by decide, by decide⟩
set_option maxRecDepth 100000 in
theorem zfw_24 : zFw (3, 130, 6, 6) ∈ lw_tbl ∧ 6 < 11 ∧ 6 < (zT3 6).2.2 := ⟨zch0 (List.mem_of_getElem? (i := 213) rfl), by decide, by decide⟩
set_option maxRecDepth 100000 in
theorem zfw_25 : zFw (4, 9, 4, 0) ∈ lw_tbl ∧ 4 < 11 ∧ 0 < (zT3 4).2.2 := ⟨zch1 (List.mem_of_getElem? (i := 42) rfl), by decide, by decide⟩
set_option maxRecDepth 100000 in
theorem zfw_26 : zFw (4, 15, 4, 1) ∈ lw_tbl ∧ 4 < 11 ∧ 1 < (zT3 4).2.2 := ⟨zch1 (List.mem_of_getElem? (i := 43) rfl), by decide, by decide⟩
set_option maxRecDepth 100000 in
theorem zfw_27 : zFw (4, 18, 4, 2) ∈ lw_tbl ∧ 4 < 11 ∧ 2 < (zT3 4).2.2 := ⟨zch1 (List.mem_of_getElem? (i := 44) rfl), by decide, by decide⟩
set_option maxRecDepth 100000 in
theorem zfw_28 : zFw (4, 21, 4, 3) ∈ lw_tbl ∧ 4 < 11 ∧ 3 < (zT3 4).2.2 := ⟨zch1 (List.mem_of_getElem? (i := 45) rfl), by decide, by decide⟩
set_option maxRecDepth 100000 in
theorem zfw_29 : zFw (4, 24, 4, 4) ∈ lw_tbl ∧ 4 < 11 ∧ 4 < (zT3 4).2.2 := ⟨zch1 (List.mem_of_getElem? (i := 48) rfl), by decide, by decide⟩
set_option maxRecDepth 100000 in
theorem zfw_30 : zFw (4, 27, 4, 5) ∈ lw_tbl ∧ 4 < 11 ∧ 5 < (zT3 4).2.2 := ⟨zch1 (List.mem_of_getElem? (i := 51) rfl), by decide, by decide⟩
set_option maxRecDepth 100000 in
theorem zfw_31 : zFw (4, 31, 4, 6) ∈ lw_tbl ∧ 4 < 11 ∧ 6 < (zT3 4).2.2 := ⟨zch1 (List.mem_of_getElem? (i := 54) rfl), by decide, by decide⟩
set_option maxRecDepth 100000 in
theorem zfw_32 : zFw (5, 9, 5, 0) ∈ lw_tbl ∧ 5 < 11 ∧ 0 < (zT3 5).2.2 := ⟨zch0 (List.mem_of_getElem? (i := 165) rfl), by decide, by decide⟩
set_option maxRecDepth 100000 in
theorem zfw_33 : zFw (5, 13, 5, 1) ∈ lw_tbl ∧ 5 < 11 ∧ 1 < (zT3 5).2.2 := ⟨zch0 (List.mem_of_getElem? (i := 166) rfl), by decide, by decide⟩
set_option maxRecDepth 100000 in
theorem zfw_34 : zFw (5, 32, 6, 12) ∈ lw_tbl ∧ 6 < 11 ∧ 12 < (zT3 6).2.2 := ⟨zch0 (List.mem_of_getElem? (i := 225) rfl), by decide, by decide⟩
set_option maxRecDepth 100000 in
theorem zfw_35 : zFw (5, 42, 6, 11) ∈ lw_tbl ∧ 6 < 11 ∧ 11 < (zT3 6).2.2 := ⟨zch0 (List.mem_of_getElem? (i := 223) rfl), by decide, by decide⟩
set_option maxRecDepth 100000 in
theorem zfw_36 : zFw (6, 13, 6, 0) ∈ lw_tbl ∧ 6 < 11 ∧ 0 < (zT3 6).2.2 := ⟨zch0 (List.mem_of_getElem? (i := 203) rfl), by decide, by decide⟩
set_option maxRecDepth 100000 in
theorem zfw_37 : zFw (6, 18, 6, 1) ∈ lw_tbl ∧ 6 < 11 ∧ 1 < (zT3 6).2.2 := ⟨zch0 (List.mem_of_getElem? (i := 204) rfl), by decide, by decide⟩
set_option maxRecDepth 100000 in
theorem zfw_38 : zFw (6, 21, 6, 2) ∈ lw_tbl ∧ 6 < 11 ∧ 2 < (zT3 6).2.2 := ⟨zch0 (List.mem_of_getElem? (i := 205) rfl), by decide, by decide⟩
set_option maxRecDepth 100000 in
theorem zfw_39 : zFw (6, 24, 6, 3) ∈ lw_tbl ∧ 6 < 11 ∧ 3 < (zT3 6).2.2 := ⟨zch0 (List.mem_of_getElem? (i := 206) rfl), by decide, by decide⟩
set_option maxRecDepth 100000 in
theorem zfw_40 : zFw (6, 27, 6, 4) ∈ lw_tbl ∧ 6 < 11 ∧ 4 < (zT3 6).2.2 := ⟨zch0 (List.mem_of_getElem? (i := 207) rfl), by decide, by decide⟩
set_option maxRecDepth 100000 in
theorem zfw_41 : zFw (6, 30, 6, 5) ∈ lw_tbl ∧ 6 < 11 ∧ 5 < (zT3 6).2.2 := ⟨zch0 (List.mem_of_getElem? (i := 209) rfl), by decide, by decide⟩
set_option maxRecDepth 100000 in
theorem zfw_42 : zFw (6, 35, 6, 6) ∈ lw_tbl ∧ 6 < 11 ∧ 6 < (zT3 6).2.2 := ⟨zch0 (List.mem_of_getElem? (i := 211) rfl), by decide, by decide⟩
set_option maxRecDepth 100000 in
theorem zfw_43 : zFw (6, 38, 6, 7) ∈ lw_tbl ∧ 6 < 11 ∧ 7 < (zT3 6).2.2 := ⟨zch0 (List.mem_of_getElem? (i := 214) rfl), by decide, by decide⟩
set_option maxRecDepth 100000 in
theorem zfw_44 : zFw (6, 50, 6, 8) ∈ lw_tbl ∧ 6 < 11 ∧ 8 < (zT3 6).2.2 := ⟨zch0 (List.mem_of_getElem? (i := 216) rfl), by decide, by decide⟩
set_option maxRecDepth 100000 in
theorem zfw_45 : zFw (6, 54, 6, 9) ∈ lw_tbl ∧ 6 < 11 ∧ 9 < (zT3 6).2.2 := ⟨zch0 (List.mem_of_getElem? (i := 218) rfl), by decide, by decide⟩
set_option maxRecDepth 100000 in
theorem zfw_46 : zFw (6, 57, 6, 10) ∈ lw_tbl ∧ 6 < 11 ∧ 10 < (zT3 6).2.2 := ⟨zch0 (List.mem_of_getElem? (i := 220) rfl), by decide, by decide⟩
set_option maxRecDepth 100000 in
theorem zfw_47 : zFw (6, 60, 6, 11) ∈ lw_tbl ∧ 6 < 11 ∧ 11 < (zT3 6).2.2 := ⟨zch0 (List.mem_of_getElem? (i := 222) rfl), by decide, by decide⟩
set_option maxRecDepth 100000 in
theorem zfw_48 : zFw (6, 63, 6, 12) ∈ lw_tbl ∧ 6 < 11 ∧ 12 < (zT3 6).2.2 := ⟨zch0 (List.mem_of_getElem? (i := 224) rfl), by decide, by decide⟩
set_option maxRecDepth 100000 in
theorem zfw_49 : zFw (7, 9, 7, 0) ∈ lw_tbl ∧ 7 < 11 ∧ 0 < (zT3 7).2.2 := ⟨zch0 (List.mem_of_getElem? (i := 123) rfl), by decide, by decide⟩
set_option maxRecDepth 100000 in
theorem zfw_50 : zFw (7, 15, 7, 1) ∈ lw_tbl ∧ 7 < 11 ∧ 1 < (zT3 7).2.2 := ⟨zch0 (List.mem_of_getElem? (i := 124) rfl), by decide, by decide⟩
set_option maxRecDepth 100000 in
theorem zfw_51 : zFw (7, 18, 7, 2) ∈ lw_tbl ∧ 7 < 11 ∧ 2 < (zT3 7).2.2 := ⟨zch0 (List.mem_of_getElem? (i := 125) rfl), by decide, by decide⟩
set_option maxRecDepth 100000 in
theorem zfw_52 : zFw (7, 21, 7, 3) ∈ lw_tbl ∧ 7 < 11 ∧ 3 < (zT3 7).2.2 := ⟨zch0 (List.mem_of_getElem? (i := 126) rfl), by decide, by decide⟩
set_option maxRecDepth 100000 in
theorem zfw_53 : zFw (7, 26, 7, 4) ∈ lw_tbl ∧ 7 < 11 ∧ 4 < (zT3 7).2.2 := ⟨zch0 (List.mem_of_getElem? (i := 127) rfl), by decide, by decide⟩
set_option maxRecDepth 100000 in
theorem zfw_54 : zFw (7, 29, 7, 5) ∈ lw_tbl ∧ 7 < 11 ∧ 5 < (zT3 7).2.2 := ⟨zch0 (List.mem_of_getElem? (i := 128) rfl), by decide, by decide⟩
set_option maxRecDepth 100000 in
theorem zfw_55 : zFw (7, 32, 7, 6) ∈ lw_tbl ∧ 7 < 11 ∧ 6 < (zT3 7).2.2 := ⟨zch0 (List.mem_of_getElem? (i := 129) rfl), by decide, by decide⟩
set_option maxRecDepth 100000 in
theorem zfw_56 : zFw (7, 35, 7, 7) ∈ lw_tbl ∧ 7 < 11 ∧ 7 < (zT3 7).2.2 := ⟨zch0 (List.mem_of_getElem? (i := 130) rfl), by decide, by decide⟩
set_option maxRecDepth 100000 in
theorem zfw_57 : zFw (7, 38, 7, 8) ∈ lw_tbl ∧ 7 < 11 ∧ 8 < (zT3 7).2.2 := ⟨zch0 (List.mem_of_getElem? (i := 131) rfl), by decide, by decide⟩
set_option maxRecDepth 100000 in
theorem zfw_58 : zFw (7, 42, 7, 9) ∈ lw_tbl ∧ 7 < 11 ∧ 9 < (zT3 7).2.2 := ⟨zch0 (List.mem_of_getElem? (i := 132) rfl), by decide, by decide⟩
set_option maxRecDepth 100000 in
theorem zfw_59 : zFw (7, 46, 7, 10) ∈ lw_tbl ∧ 7 < 11 ∧ 10 < (zT3 7).2.2 := ⟨zch0 (List.mem_of_getElem? (i := 134) rfl), by decide, by decide⟩
set_option maxRecDepth 100000 in
theorem zfw_60 : zFw (8, 9, 8, 0) ∈ lw_tbl ∧ 8 < 11 ∧ 0 < (zT3 8).2.2 := ⟨zch0 (List.mem_of_getElem? (i := 40) rfl), by decide, by decide⟩
set_option maxRecDepth 100000 in
theorem zfw_61 : zFw (8, 15, 8, 1) ∈ lw_tbl ∧ 8 < 11 ∧ 1 < (zT3 8).2.2 := ⟨zch0 (List.mem_of_getElem? (i := 41) rfl), by decide, by decide⟩
set_option maxRecDepth 100000 in
theorem zfw_62 : zFw (8, 19, 8, 2) ∈ lw_tbl ∧ 8 < 11 ∧ 2 < (zT3 8).2.2 := ⟨zch0 (List.mem_of_getElem? (i := 42) rfl), by decide, by decide⟩
set_option maxRecDepth 100000 in
theorem zfw_63 : zFw (8, 22, 8, 3) ∈ lw_tbl ∧ 8 < 11 ∧ 3 < (zT3 8).2.2 := ⟨zch0 (List.mem_of_getElem? (i := 43) rfl), by decide, by decide⟩
set_option maxRecDepth 100000 in
theorem zfw_64 : zFw (8, 25, 8, 4) ∈ lw_tbl ∧ 8 < 11 ∧ 4 < (zT3 8).2.2 := ⟨zch0 (List.mem_of_getElem? (i := 44) rfl), by decide, by decide⟩
set_option maxRecDepth 100000 in
theorem zfw_65 : zFw (8, 28, 8, 5) ∈ lw_tbl ∧ 8 < 11 ∧ 5 < (zT3 8).2.2 := ⟨zch0 (List.mem_of_getElem? (i := 45) rfl), by decide, by decide⟩
set_option maxRecDepth 100000 in
theorem zfw_66 : zFw (8, 31, 8, 6) ∈ lw_tbl ∧ 8 < 11 ∧ 6 < (zT3 8).2.2 := ⟨zch0 (List.mem_of_getElem? (i := 47) rfl), by decide, by decide⟩
set_option maxRecDepth 100000 in
theorem zfw_67 : zFw (9, 10, 9, 0) ∈ lw_tbl ∧ 9 < 11 ∧ 0 < (zT3 9).2.2 := ⟨zch1 (List.mem_of_getElem? (i := 86) rfl), by decide, by decide⟩
set_option maxRecDepth 100000 in
theorem zfw_68 : zFw (9, 19, 9, 1) ∈ lw_tbl ∧ 9 < 11 ∧ 1 < (zT3 9).2.2 := ⟨zch1 (List.mem_of_getElem? (i := 87) rfl), by decide, by decide⟩
set_option maxRecDepth 100000 in
theorem zfw_69 : zFw (9, 26, 9, 2) ∈ lw_tbl ∧ 9 < 11 ∧ 2 < (zT3 9).2.2 := ⟨zch1 (List.mem_of_getElem? (i := 88) rfl), by decide, by decide⟩
set_option maxRecDepth 100000 in
theorem zfw_70 : zFw (9, 33, 9, 3) ∈ lw_tbl ∧ 9 < 11 ∧ 3 < (zT3 9).2.2 := ⟨zch1 (List.mem_of_getElem? (i := 89) rfl), by decide, by decide⟩
set_option maxRecDepth 100000 in
theorem zfw_71 : zFw (9, 40, 9, 4) ∈ lw_tbl ∧ 9 < 11 ∧ 4 < (zT3 9).2.2 := ⟨zch1 (List.mem_of_getElem? (i := 90) rfl), by decide, by decide⟩
set_option maxRecDepth 100000 in
theorem zfw_72 : zFw (9, 47, 9, 5) ∈ lw_tbl ∧ 9 < 11 ∧ 5 < (zT3 9).2.2 := ⟨zch1 (List.mem_of_getElem? (i := 91) rfl), by decide, by decide⟩
set_option maxRecDepth 100000 in
theorem zfw_73 : zFw (9, 51, 9, 6) ∈ lw_tbl ∧ 9 < 11 ∧ 6 < (zT3 9).2.2 := ⟨zch1 (List.mem_of_getElem? (i := 92) rfl), by decide, by decide⟩
set_option maxRecDepth 100000 in
theorem zfw_74 : zFw (9, 57, 9, 7) ∈ lw_tbl ∧ 9 < 11 ∧ 7 < (zT3 9).2.2 := ⟨zch1 (List.mem_of_getElem? (i := 93) rfl), by decide, by decide⟩
set_option maxRecDepth 100000 in
theorem zfw_75 : zFw (9, 61, 9, 8) ∈ lw_tbl ∧ 9 < 11 ∧ 8 < (zT3 9).2.2 := ⟨zch1 (List.mem_of_getElem? (i := 94) rfl), by decide, by decide⟩
set_option maxRecDepth 100000 in
theorem zfw_76 : zFw (9, 67, 9, 9) ∈ lw_tbl ∧ 9 < 11 ∧ 9 < (zT3 9).2.2 := ⟨zch1 (List.mem_of_getElem? (i := 95) rfl), by decide, by decide⟩
set_option maxRecDepth 100000 in
theorem zfw_77 : zFw (9, 71, 9, 10) ∈ lw_tbl ∧ 9 < 11 ∧ 10 < (zT3 9).2.2 := ⟨zch1 (List.mem_of_getElem? (i := 96) rfl), by decide, by decide⟩
set_option maxRecDepth 100000 in
theorem zfw_78 : zFw (9, 77, 9, 11) ∈ lw_tbl ∧ 9 < 11 ∧ 11 < (zT3 9).2.2 := ⟨zch1 (List.mem_of_getElem? (i := 97) rfl), by decide, by decide⟩
set_option maxRecDepth 100000 in
theorem zfw_79 : zFw (9, 81, 9, 12) ∈ lw_tbl ∧ 9 < 11 ∧ 12 < (zT3 9).2.2 := ⟨zch1 (List.mem_of_getElem? (i := 98) rfl), by decide, by decide⟩
set_option maxRecDepth 100000 in
theorem zfw_80 : zFw (9, 84, 9, 13) ∈ lw_tbl ∧ 9 < 11 ∧ 13 < (zT3 9).2.2 := ⟨zch1 (List.mem_of_getElem? (i := 99) rfl), by decide, by decide⟩
set_option maxRecDepth 100000 in
theorem zfw_81 : zFw (9, 88, 9, 14) ∈ lw_tbl ∧ 9 < 11 ∧ 14 < (zT3 9).2.2 := ⟨zch1 (List.mem_of_getElem? (i := 100) rfl), by decide, by decide⟩
set_option maxRecDepth 100000 in
theorem zfw_82 : zFw (9, 92, 9, 15) ∈ lw_tbl ∧ 9 < 11 ∧ 15 < (zT3 9).2.2 := ⟨zch1 (List.mem_of_getElem? (i := 101) rfl), by decide, by decide⟩
set_option maxRecDepth 100000 in
theorem zfw_83 : zFw (9, 95, 9, 16) ∈ lw_tbl ∧ 9 < 11 ∧ 16 < (zT3 9).2.2 := ⟨zch1 (List.mem_of_getElem? (i := 102) rfl), by decide, by decide⟩
set_option maxRecDepth 100000 in
theorem zfw_84 : zFw (9, 98, 9, 17) ∈ lw_tbl ∧ 9 < 11 ∧ 17 < (zT3 9).2.2 := ⟨zch1 (List.mem_of_getElem? (i := 103) rfl), by decide, by decide⟩
set_option maxRecDepth 100000 in
theorem zfw_85 : zFw (9, 109, 8, 5) ∈ lw_tbl ∧ 8 < 11 ∧ 5 < (zT3 8).2.2 := ⟨zch0 (List.mem_of_getElem? (i := 46) rfl), by decide, by decide⟩
set_option maxRecDepth 100000 in
theorem zfw_86 : zFw (9, 144, 4, 5) ∈ lw_tbl ∧ 4 < 11 ∧ 5 < (zT3 4).2.2 := ⟨zch1 (List.mem_of_getElem? (i := 52) rfl), by decide, by decide⟩
set_option maxRecDepth 100000 in
theorem zfw_87 : zFw (9, 148, 0, 1) ∈ lw_tbl ∧ 0 < 11 ∧ 1 < (zT3 0).2.2 := ⟨zch1 (List.mem_of_getElem? (i := 79) rfl), by decide, by decide⟩
set_option maxRecDepth 100000 in
theorem zfw_88 : zFw (9, 149, 8, 6) ∈ lw_tbl ∧ 8 < 11 ∧ 6 < (zT3 8).2.2 := ⟨zch0 (List.mem_of_getElem? (i := 48) rfl), by decide, by decide⟩
set_option maxRecDepth 100000 in
theorem zfw_89 : zFw (9, 168, 6, 8) ∈ lw_tbl ∧ 6 < 11 ∧ 8 < (zT3 6).2.2 := ⟨zch0 (List.mem_of_getElem? (i := 217) rfl), by decide, by decide⟩
set_option maxRecDepth 100000 in
theorem zfw_90 : zFw (9, 171, 6, 9) ∈ lw_tbl ∧ 6 < 11 ∧ 9 < (zT3 6).2.2 := ⟨zch0 (List.mem_of_getElem? (i := 219) rfl), by decide, by decide⟩
set_option maxRecDepth 100000 in
theorem zfw_91 : zFw (9, 177, 6, 6) ∈ lw_tbl ∧ 6 < 11 ∧ 6 < (zT3 6).2.2 := ⟨zch0 (List.mem_of_getElem? (i := 212) rfl), by decide, by decide⟩
set_option maxRecDepth 100000 in
theorem zfw_92 : zFw (9, 181, 6, 4) ∈ lw_tbl ∧ 6 < 11 ∧ 4 < (zT3 6).2.2 := ⟨zch0 (List.mem_of_getElem? (i := 208) rfl), by decide, by decide⟩
set_option maxRecDepth 100000 in
theorem zfw_93 : zFw (9, 185, 6, 5) ∈ lw_tbl ∧ 6 < 11 ∧ 5 < (zT3 6).2.2 := ⟨zch0 (List.mem_of_getElem? (i := 210) rfl), by decide, by decide⟩
set_option maxRecDepth 100000 in
theorem zfw_94 : zFw (9, 199, 4, 3) ∈ lw_tbl ∧ 4 < 11 ∧ 3 < (zT3 4).2.2 := ⟨zch1 (List.mem_of_getElem? (i := 47) rfl), by decide, by decide⟩
set_option maxRecDepth 100000 in
theorem zfw_95 : zFw (9, 201, 4, 4) ∈ lw_tbl ∧ 4 < 11 ∧ 4 < (zT3 4).2.2 := ⟨zch1 (List.mem_of_getElem? (i := 50) rfl), by decide, by decide⟩
set_option maxRecDepth 100000 in
theorem zfw_96 : zFw (9, 203, 1, 6) ∈ lw_tbl ∧ 1 < 11 ∧ 6 < (zT3 1).2.2 := ⟨zch0 (List.mem_of_getElem? (i := 78) rfl), by decide, by decide⟩
set_option maxRecDepth 100000 in
theorem zfw_97 : zFw (9, 206, 1, 7) ∈ lw_tbl ∧ 1 < 11 ∧ 7 < (zT3 1).2.2 := ⟨zch0 (List.mem_of_getElem? (i := 80) rfl), by decide, by decide⟩
set_option maxRecDepth 100000 in
theorem zfw_98 : zFw (9, 216, 1, 10) ∈ lw_tbl ∧ 1 < 11 ∧ 10 < (zT3 1).2.2 := ⟨zch0 (List.mem_of_getElem? (i := 86) rfl), by decide, by decide⟩
set_option maxRecDepth 100000 in
theorem zfw_99 : zFw (9, 219, 1, 9) ∈ lw_tbl ∧ 1 < 11 ∧ 9 < (zT3 1).2.2 := ⟨zch0 (List.mem_of_getElem? (i := 84) rfl), by decide, by decide⟩
set_option maxRecDepth 100000 in
theorem zfw_100 : zFw (9, 222, 1, 8) ∈ lw_tbl ∧ 1 < 11 ∧ 8 < (zT3 1).2.2 := ⟨zch0 (List.mem_of_getElem? (i := 82) rfl), by decide, by decide⟩
set_option maxRecDepth 100000 in
theorem zfw_101 : zFw (9, 242, 7, 9) ∈ lw_tbl ∧ 7 < 11 ∧ 9 < (zT3 7).2.2 := ⟨zch0 (List.mem_of_getElem? (i := 133) rfl), by decide, by decide⟩
set_option maxRecDepth 100000 in
theorem zfw_102 : zFw (9, 245, 7, 10) ∈ lw_tbl ∧ 7 < 11 ∧ 10 < (zT3 7).2.2 := ⟨zch0 (List.mem_of_getElem? (i := 135) rfl), by decide, by decide⟩
set_option maxRecDepth 100000 in
theorem zfw_103 : zFw (9, 290, 2, 0) ∈ lw_tbl ∧ 2 < 11 ∧ 0 < (zT3 2).2.2 := ⟨zch0 (List.mem_of_getElem? (i := 179) rfl), by decide, by decide⟩
set_option maxRecDepth 100000 in
theorem zfw_104 : zFw (9, 293, 2, 1) ∈ lw_tbl ∧ 2 < 11 ∧ 1 < (zT3 2).2.2 := ⟨zch0 (List.mem_of_getElem? (i := 181) rfl), by decide, by decide⟩
set_option maxRecDepth 100000 in
theorem zfw_105 : zFw (9, 321, 6, 10) ∈ lw_tbl ∧ 6 < 11 ∧ 10 < (zT3 6).2.2 := ⟨zch0 (List.mem_of_getElem? (i := 221) rfl), by decide, by decide⟩
set_option maxRecDepth 100000 in
theorem zfw_106 : zFw (9, 330, 1, 11) ∈ lw_tbl ∧ 1 < 11 ∧ 11 < (zT3 1).2.2 := ⟨zch0 (List.mem_of_getElem? (i := 88) rfl), by decide, by decide⟩
set_option maxRecDepth 100000 in
theorem zfw_107 : zFw (9, 352, 4, 6) ∈ lw_tbl ∧ 4 < 11 ∧ 6 < (zT3 4).2.2 := ⟨zch1 (List.mem_of_getElem? (i := 55) rfl), by decide, by decide⟩
set_option maxRecDepth 100000 in
theorem zfw_108 : zFw (10, 3, 10, 0) ∈ lw_tbl ∧ 10 < 11 ∧ 0 < (zT3 10).2.2 := ⟨zch5 (List.mem_of_getElem? (i := 208) rfl), by decide, by decide⟩
set_option maxRecDepth 100000 in
theorem zfw_109 : zFw (10, 7, 10, 1) ∈ lw_tbl ∧ 10 < 11 ∧ 1 < (zT3 10).2.2 := ⟨zch5 (List.mem_of_getElem? (i := 209) rfl), by decide, by decide⟩
set_option maxRecDepth 100000 in
theorem zfw_110 : zFw (10, 17, 10, 8) ∈ lw_tbl ∧ 10 < 11 ∧ 8 < (zT3 10).2.2 := ⟨zch5 (List.mem_of_getElem? (i := 216) rfl), by decide, by decide⟩
set_option maxRecDepth 100000 in
theorem zfw_111 : zFw (10, 20, 10, 9) ∈ lw_tbl ∧ 10 < 11 ∧ 9 < (zT3 10).2.2 := ⟨zch5 (List.mem_of_getElem? (i := 217) rfl), by decide, by decide⟩
set_option maxRecDepth 100000 in
theorem zfw_112 : zFw (10, 23, 10, 10) ∈ lw_tbl ∧ 10 < 11 ∧ 10 < (zT3 10).2.2 := ⟨zch5 (List.mem_of_getElem? (i := 218) rfl), by decide, by decide⟩
set_option maxRecDepth 100000 in
theorem zfw_113 : zFw (10, 26, 10, 11) ∈ lw_tbl ∧ 10 < 11 ∧ 11 < (zT3 10).2.2 := ⟨zch5 (List.mem_of_getElem? (i := 219) rfl), by decide, by decide⟩
set_option maxRecDepth 100000 in
theorem zfw_114 : zFw (10, 29, 10, 12) ∈ lw_tbl ∧ 10 < 11 ∧ 12 < (zT3 10).2.2 := ⟨zch5 (List.mem_of_getElem? (i := 220) rfl), by decide, by decide⟩
set_option maxRecDepth 100000 in
theorem zfw_115 : zFw (10, 32, 10, 13) ∈ lw_tbl ∧ 10 < 11 ∧ 13 < (zT3 10).2.2 := ⟨zch5 (List.mem_of_getElem? (i := 221) rfl), by decide, by decide⟩
set_option maxRecDepth 100000 in
theorem zfw_116 : zFw (10, 35, 10, 14) ∈ lw_tbl ∧ 10 < 11 ∧ 14 < (zT3 10).2.2 := ⟨zch5 (List.mem_of_getElem? (i := 222) rfl), by decide, by decide⟩
set_option maxRecDepth 100000 in
theorem zfw_117 : zFw (10, 38, 10, 15) ∈ lw_tbl ∧ 10 < 11 ∧ 15 < (zT3 10).2.2 := ⟨zch5 (List.mem_of_getElem? (i := 223) rfl), by decide, by decide⟩
set_option maxRecDepth 100000 in
theorem zfw_118 : zFw (10, 41, 10, 16) ∈ lw_tbl ∧ 10 < 11 ∧ 16 < (zT3 10).2.2 := ⟨zch5 (List.mem_of_getElem? (i := 224) rfl), by decide, by decide⟩
set_option maxRecDepth 100000 in
theorem zfw_119 : zFw (10, 44, 10, 17) ∈ lw_tbl ∧ 10 < 11 ∧ 17 < (zT3 10).2.2 := ⟨zch5 (List.mem_of_getElem? (i := 225) rfl), by decide, by decide⟩
set_option maxRecDepth 100000 in
theorem zfw_120 : zFw (10, 47, 10, 18) ∈ lw_tbl ∧ 10 < 11 ∧ 18 < (zT3 10).2.2 := ⟨zch5 (List.mem_of_getElem? (i := 226) rfl), by decide, by decide⟩
set_option maxRecDepth 100000 in
theorem zfw_121 : zFw (10, 50, 10, 19) ∈ lw_tbl ∧ 10 < 11 ∧ 19 < (zT3 10).2.2 := ⟨zch5 (List.mem_of_getElem? (i := 227) rfl), by decide, by decide⟩
set_option maxRecDepth 100000 in
theorem zfw_122 : zFw (10, 53, 10, 20) ∈ lw_tbl ∧ 10 < 11 ∧ 20 < (zT3 10).2.2 := ⟨zch5 (List.mem_of_getElem? (i := 228) rfl), by decide, by decide⟩
set_option maxRecDepth 100000 in
theorem zfw_123 : zFw (10, 56, 10, 21) ∈ lw_tbl ∧ 10 < 11 ∧ 21 < (zT3 10).2.2 := ⟨zch5 (List.mem_of_getElem? (i := 229) rfl), by decide, by decide⟩
set_option maxRecDepth 100000 in
theorem zfw_124 : zFw (10, 59, 10, 22) ∈ lw_tbl ∧ 10 < 11 ∧ 22 < (zT3 10).2.2 := ⟨zch5 (List.mem_of_getElem? (i := 230) rfl), by decide, by decide⟩
set_option maxRecDepth 100000 in
theorem zfw_125 : zFw (10, 63, 10, 23) ∈ lw_tbl ∧ 10 < 11 ∧ 23 < (zT3 10).2.2 := ⟨zch5 (List.mem_of_getElem? (i := 231) rfl), by decide, by decide⟩
set_option maxRecDepth 100000 in
theorem zfw_126 : zFw (10, 66, 10, 24) ∈ lw_tbl ∧ 10 < 11 ∧ 24 < (zT3 10).2.2 := ⟨zch5 (List.mem_of_getElem? (i := 232) rfl), by decide, by decide⟩
set_option maxRecDepth 100000 in
theorem zfw_127 : zFw (10, 69, 10, 25) ∈ lw_tbl ∧ 10 < 11 ∧ 25 < (zT3 10).2.2 := ⟨zch5 (List.mem_of_getElem? (i := 233) rfl), by decide, by decide⟩
set_option maxRecDepth 100000 in
theorem zfw_128 : zFw (10, 72, 10, 37) ∈ lw_tbl ∧ 10 < 11 ∧ 37 < (zT3 10).2.2 := ⟨zch6 (List.mem_of_getElem? (i := 5) rfl), by decide, by decide⟩
set_option maxRecDepth 100000 in
theorem zfw_129 : zFw (10, 75, 10, 38) ∈ lw_tbl ∧ 10 < 11 ∧ 38 < (zT3 10).2.2 := ⟨zch6 (List.mem_of_getElem? (i := 6) rfl), by decide, by decide⟩
set_option maxRecDepth 100000 in
theorem zfw_130 : zFw (10, 78, 10, 39) ∈ lw_tbl ∧ 10 < 11 ∧ 39 < (zT3 10).2.2 := ⟨zch6 (List.mem_of_getElem? (i := 7) rfl), by decide, by decide⟩
set_option maxRecDepth 100000 in
theorem zfw_131 : zFw (10, 81, 10, 40) ∈ lw_tbl ∧ 10 < 11 ∧ 40 < (zT3 10).2.2 := ⟨zch6 (List.mem_of_getElem? (i := 8) rfl), by decide, by decide⟩
set_option maxRecDepth 100000 in
theorem zfw_132 : zFw (10, 84, 10, 41) ∈ lw_tbl ∧ 10 < 11 ∧ 41 < (zT3 10).2.2 := ⟨zch6 (List.mem_of_getElem? (i := 9) rfl), by decide, by decide⟩
set_option maxRecDepth 100000 in
theorem zfw_133 : zFw (10, 87, 10, 44) ∈ lw_tbl ∧ 10 < 11 ∧ 44 < (zT3 10).2.2 := ⟨zch6 (List.mem_of_getElem? (i := 12) rfl), by decide, by decide⟩
set_option maxRecDepth 100000 in
theorem zfw_134 : zFw (10, 90, 10, 45) ∈ lw_tbl ∧ 10 < 11 ∧ 45 < (zT3 10).2.2 := ⟨zch6 (List.mem_of_getElem? (i := 13) rfl), by decide, by decide⟩
set_option maxRecDepth 100000 in
theorem zfw_135 : zFw (10, 93, 10, 46) ∈ lw_tbl ∧ 10 < 11 ∧ 46 < (zT3 10).2.2 := ⟨zch6 (List.mem_of_getElem? (i := 14) rfl), by decide, by decide⟩
set_option maxRecDepth 100000 in
theorem zfw_136 : zFw (10, 96, 10, 47) ∈ lw_tbl ∧ 10 < 11 ∧ 47 < (zT3 10).2.2 := ⟨zch6 (List.mem_of_getElem? (i := 15) rfl), by decide, by decide⟩
set_option maxRecDepth 100000 in
theorem zfw_137 : zFw (10, 99, 10, 48) ∈ lw_tbl ∧ 10 < 11 ∧ 48 < (zT3 10).2.2 := ⟨zch6 (List.mem_of_getElem? (i := 16) rfl), by decide, by decide⟩
set_option maxRecDepth 100000 in
theorem zfw_138 : zFw (10, 102, 10, 51) ∈ lw_tbl ∧ 10 < 11 ∧ 51 < (zT3 10).2.2 := ⟨zch6 (List.mem_of_getElem? (i := 19) rfl), by decide, by decide⟩
set_option maxRecDepth 100000 in
theorem zfw_139 : zFw (10, 105, 10, 52) ∈ lw_tbl ∧ 10 < 11 ∧ 52 < (zT3 10).2.2 := ⟨zch6 (List.mem_of_getElem? (i := 20) rfl), by decide, by decide⟩
set_option maxRecDepth 100000 in
theorem zfw_140 : zFw (10, 108, 10, 53) ∈ lw_tbl ∧ 10 < 11 ∧ 53 < (zT3 10).2.2 := ⟨zch6 (List.mem_of_getElem? (i := 21) rfl), by decide, by decide⟩
set_option maxRecDepth 100000 in
theorem zfw_141 : zFw (10, 111, 10, 54) ∈ lw_tbl ∧ 10 < 11 ∧ 54 < (zT3 10).2.2 := ⟨zch6 (List.mem_of_getElem? (i := 22) rfl), by decide, by decide⟩
set_option maxRecDepth 100000 in
theorem zfw_142 : zFw (10, 114, 10, 55) ∈ lw_tbl ∧ 10 < 11 ∧ 55 < (zT3 10).2.2 := ⟨zch6 (List.mem_of_getElem? (i := 23) rfl), by decide, by decide⟩
set_option maxRecDepth 100000 in
theorem zfw_143 : zFw (10, 117, 10, 56) ∈ lw_tbl ∧ 10 < 11 ∧ 56 < (zT3 10).2.2 := ⟨zch6 (List.mem_of_getElem? (i := 24) rfl), by decide, by decide⟩
set_option maxRecDepth 100000 in
theorem zfw_144 : zFw (10, 120, 10, 57) ∈ lw_tbl ∧ 10 < 11 ∧ 57 < (zT3 10).2.2 := ⟨zch6 (List.mem_of_getElem? (i := 25) rfl), by decide, by decide⟩
set_option maxRecDepth 100000 in
theorem zfw_145 : zFw (10, 123, 10, 59) ∈ lw_tbl ∧ 10 < 11 ∧ 59 < (zT3 10).2.2 := ⟨zch6 (List.mem_of_getElem? (i := 27) rfl), by decide, by decide⟩
set_option maxRecDepth 100000 in
theorem zfw_146 : zFw (10, 126, 10, 60) ∈ lw_tbl ∧ 10 < 11 ∧ 60 < (zT3 10).2.2 := ⟨zch6 (List.mem_of_getElem? (i := 28) rfl), by decide, by decide⟩
set_option maxRecDepth 100000 in
theorem zfw_147 : zFw (10, 129, 10, 61) ∈ lw_tbl ∧ 10 < 11 ∧ 61 < (zT3 10).2.2 := ⟨zch6 (List.mem_of_getElem? (i := 29) rfl), by decide, by decide⟩
set_option maxRecDepth 100000 in
theorem zfw_148 : zFw (10, 132, 10, 62) ∈ lw_tbl ∧ 10 < 11 ∧ 62 < (zT3 10).2.2 := ⟨zch6 (List.mem_of_getElem? (i := 30) rfl), by decide, by decide⟩
set_option maxRecDepth 100000 in
theorem zfw_149 : zFw (10, 135, 10, 67) ∈ lw_tbl ∧ 10 < 11 ∧ 67 < (zT3 10).2.2 := ⟨zch6 (List.mem_of_getElem? (i := 35) rfl), by decide, by decide⟩
set_option maxRecDepth 100000 in
theorem zfw_150 : zFw (10, 138, 10, 69) ∈ lw_tbl ∧ 10 < 11 ∧ 69 < (zT3 10).2.2 := ⟨zch6 (List.mem_of_getElem? (i := 37) rfl), by decide, by decide⟩
set_option maxRecDepth 100000 in
theorem zfw_151 : zFw (10, 141, 10, 71) ∈ lw_tbl ∧ 10 < 11 ∧ 71 < (zT3 10).2.2 := ⟨zch6 (List.mem_of_getElem? (i := 39) rfl), by decide, by decide⟩
set_option maxRecDepth 100000 in
theorem zfw_152 : zFw (10, 150, 10, 2) ∈ lw_tbl ∧ 10 < 11 ∧ 2 < (zT3 10).2.2 := ⟨zch5 (List.mem_of_getElem? (i := 210) rfl), by decide, by decide⟩
set_option maxRecDepth 100000 in
theorem zfw_153 : zFw (10, 153, 10, 5) ∈ lw_tbl ∧ 10 < 11 ∧ 5 < (zT3 10).2.2 := ⟨zch5 (List.mem_of_getElem? (i := 213) rfl), by decide, by decide⟩
set_option maxRecDepth 100000 in
theorem zfw_154 : zFw (10, 156, 10, 6) ∈ lw_tbl ∧ 10 < 11 ∧ 6 < (zT3 10).2.2 := ⟨zch5 (List.mem_of_getElem? (i := 214) rfl), by decide, by decide⟩
set_option maxRecDepth 100000 in
theorem zfw_155 : zFw (10, 159, 10, 4) ∈ lw_tbl ∧ 10 < 11 ∧ 4 < (zT3 10).2.2 := ⟨zch5 (List.mem_of_getElem? (i := 212) rfl), by decide, by decide⟩
set_option maxRecDepth 100000 in
theorem zfw_156 : zFw (10, 162, 10, 3) ∈ lw_tbl ∧ 10 < 11 ∧ 3 < (zT3 10).2.2 := ⟨zch5 (List.mem_of_getElem? (i := 211) rfl), by decide, by decide⟩
set_option maxRecDepth 100000 in
theorem zfw_157 : zFw (10, 193, 10, 7) ∈ lw_tbl ∧ 10 < 11 ∧ 7 < (zT3 10).2.2 := ⟨zch5 (List.mem_of_getElem? (i := 215) rfl), by decide, by decide⟩
set_option maxRecDepth 100000 in
theorem zfw_158 : zFw (10, 196, 10, 26) ∈ lw_tbl ∧ 10 < 11 ∧ 26 < (zT3 10).2.2 := ⟨zch5 (List.mem_of_getElem? (i := 234) rfl), by decide, by decide⟩
set_option maxRecDepth 100000 in
theorem zfw_159 : zFw (10, 199, 10, 27) ∈ lw_tbl ∧ 10 < 11 ∧ 27 < (zT3 10).2.2 := ⟨zch5 (List.mem_of_getElem? (i := 235) rfl), by decide, by decide⟩
set_option maxRecDepth 100000 in
theorem zfw_160 : zFw (10, 202, 10, 28) ∈ lw_tbl ∧ 10 < 11 ∧ 28 < (zT3 10).2.2 := ⟨zch5 (List.mem_of_getElem? (i := 236) rfl), by decide, by decide⟩
set_option maxRecDepth 100000 in
theorem zfw_161 : zFw (10, 205, 10, 29) ∈ lw_tbl ∧ 10 < 11 ∧ 29 < (zT3 10).2.2 := ⟨zch5 (List.mem_of_getElem? (i := 237) rfl), by decide, by decide⟩
set_option maxRecDepth 100000 in
theorem zfw_162 : zFw (10, 208, 10, 30) ∈ lw_tbl ∧ 10 < 11 ∧ 30 < (zT3 10).2.2 := ⟨zch5 (List.mem_of_getElem? (i := 238) rfl), by decide, by decide⟩
set_option maxRecDepth 100000 in
theorem zfw_163 : zFw (10, 211, 10, 31) ∈ lw_tbl ∧ 10 < 11 ∧ 31 < (zT3 10).2.2 := ⟨zch5 (List.mem_of_getElem? (i := 239) rfl), by decide, by decide⟩
set_option maxRecDepth 100000 in
theorem zfw_164 : zFw (10, 214, 10, 32) ∈ lw_tbl ∧ 10 < 11 ∧ 32 < (zT3 10).2.2 := ⟨zch6 (List.mem_of_getElem? (i := 0) rfl), by decide, by decide⟩
set_option maxRecDepth 100000 in
theorem zfw_165 : zFw (10, 217, 10, 33) ∈ lw_tbl ∧ 10 < 11 ∧ 33 < (zT3 10).2.2 := ⟨zch6 (List.mem_of_getElem? (i := 1) rfl), by decide, by decide⟩
set_option maxRecDepth 100000 in
theorem zfw_166 : zFw (10, 220, 10, 34) ∈ lw_tbl ∧ 10 < 11 ∧ 34 < (zT3 10).2.2 := ⟨zch6 (List.mem_of_getElem? (i := 2) rfl), by decide, by decide⟩
set_option maxRecDepth 100000 in
theorem zfw_167 : zFw (10, 223, 10, 35) ∈ lw_tbl ∧ 10 < 11 ∧ 35 < (zT3 10).2.2 := ⟨zch6 (List.mem_of_getElem? (i := 3) rfl), by decide, by decide⟩
set_option maxRecDepth 100000 in
theorem zfw_168 : zFw (10, 226, 10, 36) ∈ lw_tbl ∧ 10 < 11 ∧ 36 < (zT3 10).2.2 := ⟨zch6 (List.mem_of_getElem? (i := 4) rfl), by decide, by decide⟩
set_option maxRecDepth 100000 in
theorem zfw_169 : zFw (10, 233, 10, 43) ∈ lw_tbl ∧ 10 < 11 ∧ 43 < (zT3 10).2.2 := ⟨zch6 (List.mem_of_getElem? (i := 11) rfl), by decide, by decide⟩
set_option maxRecDepth 100000 in
theorem zfw_170 : zFw (10, 236, 10, 49) ∈ lw_tbl ∧ 10 < 11 ∧ 49 < (zT3 10).2.2 := ⟨zch6 (List.mem_of_getElem? (i := 17) rfl), by decide, by decide⟩
set_option maxRecDepth 100000 in
theorem zfw_171 : zFw (10, 239, 10, 50) ∈ lw_tbl ∧ 10 < 11 ∧ 50 < (zT3 10).2.2 := ⟨zch6 (List.mem_of_getElem? (i := 18) rfl), by decide, by decide⟩
set_option maxRecDepth 100000 in
theorem zfw_172 : zFw (10, 242, 10, 70) ∈ lw_tbl ∧ 10 < 11 ∧ 70 < (zT3 10).2.2 := ⟨zch6 (List.mem_of_getElem? (i := 38) rfl), by decide, by decide⟩
set_option maxRecDepth 100000 in
theorem zfw_173 : zFw (10, 245, 10, 72) ∈ lw_tbl ∧ 10 < 11 ∧ 72 < (zT3 10).2.2 := ⟨zch6 (List.mem_of_getElem? (i := 40) rfl), by decide, by decide⟩
set_option maxRecDepth 100000 in
theorem zfw_174 : zFw (10, 313, 10, 42) ∈ lw_tbl ∧ 10 < 11 ∧ 42 < (zT3 10).2.2 := ⟨zch6 (List.mem_of_getElem? (i := 10) rfl), by decide, by decide⟩
set_option maxRecDepth 100000 in
theorem zfw_175 : zFw (10, 387, 10, 58) ∈ lw_tbl ∧ 10 < 11 ∧ 58 < (zT3 10).2.2 := ⟨zch6 (List.mem_of_getElem? (i := 26) rfl), by decide, by decide⟩
set_option maxRecDepth 100000 in
theorem zfw_176 : zFw (10, 415, 10, 63) ∈ lw_tbl ∧ 10 < 11 ∧ 63 < (zT3 10).2.2 := ⟨zch6 (List.mem_of_getElem? (i := 31) rfl), by decide, by decide⟩
set_option maxRecDepth 100000 in
theorem zfw_177 : zFw (10, 418, 10, 64) ∈ lw_tbl ∧ 10 < 11 ∧ 64 < (zT3 10).2.2 := ⟨zch6 (List.mem_of_getElem? (i := 32) rfl), by decide, by decide⟩
set_option maxRecDepth 100000 in
theorem zfw_178 : zFw (10, 465, 10, 65) ∈ lw_tbl ∧ 10 < 11 ∧ 65 < (zT3 10).2.2 := ⟨zch6 (List.mem_of_getElem? (i := 33) rfl), by decide, by decide⟩
set_option maxRecDepth 100000 in
theorem zfw_179 : zFw (10, 468, 10, 66) ∈ lw_tbl ∧ 10 < 11 ∧ 66 < (zT3 10).2.2 := ⟨zch6 (List.mem_of_getElem? (i := 34) rfl), by decide, by decide⟩
set_option maxRecDepth 100000 in
theorem zfw_180 : zFw (10, 495, 10, 68) ∈ lw_tbl ∧ 10 < 11 ∧ 68 < (zT3 10).2.2 := ⟨zch6 (List.mem_of_getElem? (i := 36) rfl), by decide, by decide⟩
def zFsA_l0 : List (Nat × Nat × Nat × Nat) := [(0, 9, 0, 0), (0, 15, 0, 1), (0, 57, 6, 7), (1, 9, 1, 0), (1, 15, 1, 1), (1, 18, 1, 2), (1, 22, 1, 3), (1, 25, 1, 4), (1, 28, 1, 5), (1, 31, 1, 6), (1, 34, 1, 7), (1, 37, 1, 8), (1, 40, 1, 9), (1, 43, 1, 10), (1, 46, 1, 11), (1, 55, 4, 5)]
set_option maxRecDepth 100000 in
theorem zFsA_a0 : ∀ e ∈ zFsA_l0, zFw e ∈ lw_tbl ∧ e.2.2.1 < 11 ∧ e.2.2.2 < (zT3 e.2.2.1).2.2 := List.forall_mem_cons.mpr ⟨zfw_0, List.forall_mem_cons.mpr ⟨zfw_1, List.forall_mem_cons.mpr ⟨zfw_2, List.forall_mem_cons.mpr ⟨zfw_3, List.forall_mem_cons.mpr ⟨zfw_4, List.forall_mem_cons.mpr ⟨zfw_5, List.forall_mem_cons.mpr ⟨zfw_6, List.forall_mem_cons.mpr ⟨zfw_7, List.forall_mem_cons.mpr ⟨zfw_8, List.forall_mem_cons.mpr ⟨zfw_9, List.forall_mem_cons.mpr ⟨zfw_10, List.forall_mem_cons.mpr ⟨zfw_11, List.forall_mem_cons.mpr ⟨zfw_12, List.forall_mem_cons.mpr ⟨zfw_13, List.forall_mem_cons.mpr ⟨zfw_14, List.forall_mem_cons.mpr ⟨zfw_15, fun _ h => absurd h List.not_mem_nil⟩⟩⟩⟩⟩⟩⟩⟩⟩⟩⟩⟩⟩⟩⟩⟩
def zFsA_l1 : List (Nat × Nat × Nat × Nat) := [(1, 60, 4, 3), (1, 63, 4, 4), (2, 12, 2, 0), (2, 18, 2, 1), (3, 9, 3, 0), (3, 15, 3, 1), (3, 18, 3, 2), (3, 24, 3, 3), (3, 130, 6, 6), (4, 9, 4, 0), (4, 15, 4, 1), (4, 18, 4, 2), (4, 21, 4, 3), (4, 24, 4, 4), (4, 27, 4, 5), (4, 31, 4, 6)]
set_option maxRecDepth 100000 in
theorem zFsA_a1 : ∀ e ∈ zFsA_l1, zFw e ∈ lw_tbl ∧ e.2.2.1 < 11 ∧ e.2.2.2 < (zT3 e.2.2.1).2.2 := List.forall_mem_cons.mpr ⟨zfw_16, List.forall_mem_cons.mpr ⟨zfw_17, List.forall_mem_cons.mpr ⟨zfw_18, List.forall_mem_cons.mpr ⟨zfw_19, List.forall_mem_cons.mpr ⟨zfw_20, List.forall_mem_cons.mpr ⟨zfw_21, List.forall_mem_cons.mpr ⟨zfw_22, List.forall_mem_cons.mpr ⟨zfw_23, List.forall_mem_cons.mpr ⟨zfw_24, List.forall_mem_cons.mpr ⟨zfw_25, List.forall_mem_cons.mpr ⟨zfw_26, List.forall_mem_cons.mpr ⟨zfw_27, List.forall_mem_cons.mpr ⟨zfw_28, List.forall_mem_cons.mpr ⟨zfw_29, List.forall_mem_cons.mpr ⟨zfw_30, List.forall_mem_cons.mpr ⟨zfw_31, fun _ h => absurd h List.not_mem_nil⟩⟩⟩⟩⟩⟩⟩⟩⟩⟩⟩⟩⟩⟩⟩⟩
def zFsA_l2 : List (Nat × Nat × Nat × Nat) := [(5, 9, 5, 0), (5, 13, 5, 1), (5, 32, 6, 12), (5, 42, 6, 11), (6, 13, 6, 0), (6, 18, 6, 1), (6, 21, 6, 2), (6, 24, 6, 3), (6, 27, 6, 4), (6, 30, 6, 5), (6, 35, 6, 6), (6, 38, 6, 7), (6, 50, 6, 8), (6, 54, 6, 9), (6, 57, 6, 10), (6, 60, 6, 11)]
set_option maxRecDepth 100000 in
theorem zFsA_a2 : ∀ e ∈ zFsA_l2, zFw e ∈ lw_tbl ∧ e.2.2.1 < 11 ∧ e.2.2.2 < (zT3 e.2.2.1).2.2 := List.forall_mem_cons.mpr ⟨zfw_32, List.forall_mem_cons.mpr ⟨zfw_33, List.forall_mem_cons.mpr ⟨zfw_34, List.forall_mem_cons.mpr ⟨zfw_35, List.forall_mem_cons.mpr ⟨zfw_36, List.forall_mem_cons.mpr ⟨zfw_37, List.forall_mem_cons.mpr ⟨zfw_38, List.forall_mem_cons.mpr ⟨zfw_39, List.forall_mem_cons.mpr ⟨zfw_40, List.forall_mem_cons.mpr ⟨zfw_41, List.forall_mem_cons.mpr ⟨zfw_42, List.forall_mem_cons.mpr ⟨zfw_43, List.forall_mem_cons.mpr ⟨zfw_44, List.forall_mem_cons.mpr ⟨zfw_45, List.forall_mem_cons.mpr ⟨zfw_46, List.forall_mem_cons.mpr ⟨zfw_47, fun _ h => absurd h List.not_mem_nil⟩⟩⟩⟩⟩⟩⟩⟩⟩⟩⟩⟩⟩⟩⟩⟩
def zFsA_l3 : List (Nat × Nat × Nat × Nat) := [(6, 63, 6, 12), (7, 9, 7, 0), (7, 15, 7, 1), (7, 18, 7, 2), (7, 21, 7, 3), (7, 26, 7, 4), (7, 29, 7, 5), (7, 32, 7, 6), (7, 35, 7, 7), (7, 38, 7, 8), (7, 42, 7, 9), (7, 46, 7, 10), (8, 9, 8, 0), (8, 15, 8, 1), (8, 19, 8, 2), (8, 22, 8, 3)]
set_option maxRecDepth 100000 in
theorem zFsA_a3 : ∀ e ∈ zFsA_l3, zFw e ∈ lw_tbl ∧ e.2.2.1 < 11 ∧ e.2.2.2 < (zT3 e.2.2.1).2.2 := List.forall_mem_cons.mpr ⟨zfw_48, List.forall_mem_cons.mpr ⟨zfw_49, List.forall_mem_cons.mpr ⟨zfw_50, List.forall_mem_cons.mpr ⟨zfw_51, List.forall_mem_cons.mpr ⟨zfw_52, List.forall_mem_cons.mpr ⟨zfw_53, List.forall_mem_cons.mpr ⟨zfw_54, List.forall_mem_cons.mpr ⟨zfw_55, List.forall_mem_cons.mpr ⟨zfw_56, List.forall_mem_cons.mpr ⟨zfw_57, List.forall_mem_cons.mpr ⟨zfw_58, List.forall_mem_cons.mpr ⟨zfw_59, List.forall_mem_cons.mpr ⟨zfw_60, List.forall_mem_cons.mpr ⟨zfw_61, List.forall_mem_cons.mpr ⟨zfw_62, List.forall_mem_cons.mpr ⟨zfw_63, fun _ h => absurd h List.not_mem_nil⟩⟩⟩⟩⟩⟩⟩⟩⟩⟩⟩⟩⟩⟩⟩⟩
def zFsA_l4 : List (Nat × Nat × Nat × Nat) := [(8, 25, 8, 4), (8, 28, 8, 5), (8, 31, 8, 6), (9, 10, 9, 0), (9, 19, 9, 1), (9, 26, 9, 2), (9, 33, 9, 3), (9, 40, 9, 4), (9, 47, 9, 5), (9, 51, 9, 6), (9, 57, 9, 7), (9, 61, 9, 8), (9, 67, 9, 9), (9, 71, 9, 10), (9, 77, 9, 11), (9, 81, 9, 12)]
set_option maxRecDepth 100000 in
theorem zFsA_a4 : ∀ e ∈ zFsA_l4, zFw e ∈ lw_tbl ∧ e.2.2.1 < 11 ∧ e.2.2.2 < (zT3 e.2.2.1).2.2 := List.forall_mem_cons.mpr ⟨zfw_64, List.forall_mem_cons.mpr ⟨zfw_65, List.forall_mem_cons.mpr ⟨zfw_66, List.forall_mem_cons.mpr ⟨zfw_67, List.forall_mem_cons.mpr ⟨zfw_68, List.forall_mem_cons.mpr ⟨zfw_69, List.forall_mem_cons.mpr ⟨zfw_70, List.forall_mem_cons.mpr ⟨zfw_71, List.forall_mem_cons.mpr ⟨zfw_72, List.forall_mem_cons.mpr ⟨zfw_73, List.forall_mem_cons.mpr ⟨zfw_74, List.forall_mem_cons.mpr ⟨zfw_75, List.forall_mem_cons.mpr ⟨zfw_76, List.forall_mem_cons.mpr ⟨zfw_77, List.forall_mem_cons.mpr ⟨zfw_78, List.forall_mem_cons.mpr ⟨zfw_79, fun _ h => absurd h List.not_mem_nil⟩⟩⟩⟩⟩⟩⟩⟩⟩⟩⟩⟩⟩⟩⟩⟩
def zFsA_l5 : List (Nat × Nat × Nat × Nat) := [(9, 84, 9, 13), (9, 88, 9, 14), (9, 92, 9, 15), (9, 95, 9, 16), (9, 98, 9, 17), (9, 109, 8, 5), (9, 144, 4, 5), (9, 148, 0, 1), (9, 149, 8, 6), (9, 168, 6, 8), (9, 171, 6, 9), (9, 177, 6, 6), (9, 181, 6, 4), (9, 185, 6, 5), (9, 199, 4, 3), (9, 201, 4, 4)]
set_option maxRecDepth 100000 in
theorem zFsA_a5 : ∀ e ∈ zFsA_l5, zFw e ∈ lw_tbl ∧ e.2.2.1 < 11 ∧ e.2.2.2 < (zT3 e.2.2.1).2.2 := List.forall_mem_cons.mpr ⟨zfw_80, List.forall_mem_cons.mpr ⟨zfw_81, List.forall_mem_cons.mpr ⟨zfw_82, List.forall_mem_cons.mpr ⟨zfw_83, List.forall_mem_cons.mpr ⟨zfw_84, List.forall_mem_cons.mpr ⟨zfw_85, List.forall_mem_cons.mpr ⟨zfw_86, List.forall_mem_cons.mpr ⟨zfw_87, List.forall_mem_cons.mpr ⟨zfw_88, List.forall_mem_cons.mpr ⟨zfw_89, List.forall_mem_cons.mpr ⟨zfw_90, List.forall_mem_cons.mpr ⟨zfw_91, List.forall_mem_cons.mpr ⟨zfw_92, List.forall_mem_cons.mpr ⟨zfw_93, List.forall_mem_cons.mpr ⟨zfw_94, List.forall_mem_cons.mpr ⟨zfw_95, fun _ h => absurd h List.not_mem_nil⟩⟩⟩⟩⟩⟩⟩⟩⟩⟩⟩⟩⟩⟩⟩⟩
def zFsA_l6 : List (Nat × Nat × Nat × Nat) := [(9, 203, 1, 6), (9, 206, 1, 7), (9, 216, 1, 10), (9, 219, 1, 9), (9, 222, 1, 8), (9, 242, 7, 9), (9, 245, 7, 10), (9, 290, 2, 0), (9, 293, 2, 1), (9, 321, 6, 10), (9, 330, 1, 11), (9, 352, 4, 6), (10, 3, 10, 0), (10, 7, 10, 1), (10, 17, 10, 8), (10, 20, 10, 9)]
set_option maxRecDepth 100000 in
theorem zFsA_a6 : ∀ e ∈ zFsA_l6, zFw e ∈ lw_tbl ∧ e.2.2.1 < 11 ∧ e.2.2.2 < (zT3 e.2.2.1).2.2 := List.forall_mem_cons.mpr ⟨zfw_96, List.forall_mem_cons.mpr ⟨zfw_97, List.forall_mem_cons.mpr ⟨zfw_98, List.forall_mem_cons.mpr ⟨zfw_99, List.forall_mem_cons.mpr ⟨zfw_100, List.forall_mem_cons.mpr ⟨zfw_101, List.forall_mem_cons.mpr ⟨zfw_102, List.forall_mem_cons.mpr ⟨zfw_103, List.forall_mem_cons.mpr ⟨zfw_104, List.forall_mem_cons.mpr ⟨zfw_105, List.forall_mem_cons.mpr ⟨zfw_106, List.forall_mem_cons.mpr ⟨zfw_107, List.forall_mem_cons.mpr ⟨zfw_108, List.forall_mem_cons.mpr ⟨zfw_109, List.forall_mem_cons.mpr ⟨zfw_110, List.forall_mem_cons.mpr ⟨zfw_111, fun _ h => absurd h List.not_mem_nil⟩⟩⟩⟩⟩⟩⟩⟩⟩⟩⟩⟩⟩⟩⟩⟩
def zFsA_l7 : List (Nat × Nat × Nat × Nat) := [(10, 23, 10, 10), (10, 26, 10, 11), (10, 29, 10, 12), (10, 32, 10, 13), (10, 35, 10, 14), (10, 38, 10, 15), (10, 41, 10, 16), (10, 44, 10, 17), (10, 47, 10, 18), (10, 50, 10, 19), (10, 53, 10, 20), (10, 56, 10, 21), (10, 59, 10, 22), (10, 63, 10, 23), (10, 66, 10, 24), (10, 69, 10, 25)]
set_option maxRecDepth 100000 in
theorem zFsA_a7 : ∀ e ∈ zFsA_l7, zFw e ∈ lw_tbl ∧ e.2.2.1 < 11 ∧ e.2.2.2 < (zT3 e.2.2.1).2.2 := List.forall_mem_cons.mpr ⟨zfw_112, List.forall_mem_cons.mpr ⟨zfw_113, List.forall_mem_cons.mpr ⟨zfw_114, List.forall_mem_cons.mpr ⟨zfw_115, List.forall_mem_cons.mpr ⟨zfw_116, List.forall_mem_cons.mpr ⟨zfw_117, List.forall_mem_cons.mpr ⟨zfw_118, List.forall_mem_cons.mpr ⟨zfw_119, List.forall_mem_cons.mpr ⟨zfw_120, List.forall_mem_cons.mpr ⟨zfw_121, List.forall_mem_cons.mpr ⟨zfw_122, List.forall_mem_cons.mpr ⟨zfw_123, List.forall_mem_cons.mpr ⟨zfw_124, List.forall_mem_cons.mpr ⟨zfw_125, List.forall_mem_cons.mpr ⟨zfw_126, List.forall_mem_cons.mpr ⟨zfw_127, fun _ h => absurd h List.not_mem_nil⟩⟩⟩⟩⟩⟩⟩⟩⟩⟩⟩⟩⟩⟩⟩⟩
def zFsA_l8 : List (Nat × Nat × Nat × Nat) := [(10, 72, 10, 37), (10, 75, 10, 38), (10, 78, 10, 39), (10, 81, 10, 40), (10, 84, 10, 41), (10, 87, 10, 44), (10, 90, 10, 45), (10, 93, 10, 46), (10, 96, 10, 47), (10, 99, 10, 48), (10, 102, 10, 51), (10, 105, 10, 52), (10, 108, 10, 53), (10, 111, 10, 54), (10, 114, 10, 55), (10, 117, 10, 56)]
set_option maxRecDepth 100000 in
theorem zFsA_a8 : ∀ e ∈ zFsA_l8, zFw e ∈ lw_tbl ∧ e.2.2.1 < 11 ∧ e.2.2.2 < (zT3 e.2.2.1).2.2 := List.forall_mem_cons.mpr ⟨zfw_128, List.forall_mem_cons.mpr ⟨zfw_129, List.forall_mem_cons.mpr ⟨zfw_130, List.forall_mem_cons.mpr ⟨zfw_131, List.forall_mem_cons.mpr ⟨zfw_132, List.forall_mem_cons.mpr ⟨zfw_133, List.forall_mem_cons.mpr ⟨zfw_134, List.forall_mem_cons.mpr ⟨zfw_135, List.forall_mem_cons.mpr ⟨zfw_136, List.forall_mem_cons.mpr ⟨zfw_137, List.forall_mem_cons.mpr ⟨zfw_138, List.forall_mem_cons.mpr ⟨zfw_139, List.forall_mem_cons.mpr ⟨zfw_140, List.forall_mem_cons.mpr ⟨zfw_141, List.forall_mem_cons.mpr ⟨zfw_142, List.forall_mem_cons.mpr ⟨zfw_143, fun _ h => absurd h List.not_mem_nil⟩⟩⟩⟩⟩⟩⟩⟩⟩⟩⟩⟩⟩⟩⟩⟩
def zFsA_l9 : List (Nat × Nat × Nat × Nat) := [(10, 120, 10, 57), (10, 123, 10, 59), (10, 126, 10, 60), (10, 129, 10, 61), (10, 132, 10, 62), (10, 135, 10, 67), (10, 138, 10, 69), (10, 141, 10, 71), (10, 150, 10, 2), (10, 153, 10, 5), (10, 156, 10, 6), (10, 159, 10, 4), (10, 162, 10, 3), (10, 193, 10, 7), (10, 196, 10, 26), (10, 199, 10, 27)]
set_option maxRecDepth 100000 in
theorem zFsA_a9 : ∀ e ∈ zFsA_l9, zFw e ∈ lw_tbl ∧ e.2.2.1 < 11 ∧ e.2.2.2 < (zT3 e.2.2.1).2.2 := List.forall_mem_cons.mpr ⟨zfw_144, List.forall_mem_cons.mpr ⟨zfw_145, List.forall_mem_cons.mpr ⟨zfw_146, List.forall_mem_cons.mpr ⟨zfw_147, List.forall_mem_cons.mpr ⟨zfw_148, List.forall_mem_cons.mpr ⟨zfw_149, List.forall_mem_cons.mpr ⟨zfw_150, List.forall_mem_cons.mpr ⟨zfw_151, List.forall_mem_cons.mpr ⟨zfw_152, List.forall_mem_cons.mpr ⟨zfw_153, List.forall_mem_cons.mpr ⟨zfw_154, List.forall_mem_cons.mpr ⟨zfw_155, List.forall_mem_cons.mpr ⟨zfw_156, List.forall_mem_cons.mpr ⟨zfw_157, List.forall_mem_cons.mpr ⟨zfw_158, List.forall_mem_cons.mpr ⟨zfw_159, fun _ h => absurd h List.not_mem_nil⟩⟩⟩⟩⟩⟩⟩⟩⟩⟩⟩⟩⟩⟩⟩⟩
def zFsA_l10 : List (Nat × Nat × Nat × Nat) := [(10, 202, 10, 28), (10, 205, 10, 29), (10, 208, 10, 30), (10, 211, 10, 31), (10, 214, 10, 32), (10, 217, 10, 33), (10, 220, 10, 34), (10, 223, 10, 35), (10, 226, 10, 36), (10, 233, 10, 43), (10, 236, 10, 49), (10, 239, 10, 50), (10, 242, 10, 70), (10, 245, 10, 72), (10, 313, 10, 42), (10, 387, 10, 58)]
set_option maxRecDepth 100000 in
theorem zFsA_a10 : ∀ e ∈ zFsA_l10, zFw e ∈ lw_tbl ∧ e.2.2.1 < 11 ∧ e.2.2.2 < (zT3 e.2.2.1).2.2 := List.forall_mem_cons.mpr ⟨zfw_160, List.forall_mem_cons.mpr ⟨zfw_161, List.forall_mem_cons.mpr ⟨zfw_162, List.forall_mem_cons.mpr ⟨zfw_163, List.forall_mem_cons.mpr ⟨zfw_164, List.forall_mem_cons.mpr ⟨zfw_165, List.forall_mem_cons.mpr ⟨zfw_166, List.forall_mem_cons.mpr ⟨zfw_167, List.forall_mem_cons.mpr ⟨zfw_168, List.forall_mem_cons.mpr ⟨zfw_169, List.forall_mem_cons.mpr ⟨zfw_170, List.forall_mem_cons.mpr ⟨zfw_171, List.forall_mem_cons.mpr ⟨zfw_172, List.forall_mem_cons.mpr ⟨zfw_173, List.forall_mem_cons.mpr ⟨zfw_174, List.forall_mem_cons.mpr ⟨zfw_175, fun _ h => absurd h List.not_mem_nil⟩⟩⟩⟩⟩⟩⟩⟩⟩⟩⟩⟩⟩⟩⟩⟩
def zFsA_l11 : List (Nat × Nat × Nat × Nat) := [(10, 415, 10, 63), (10, 418, 10, 64), (10, 465, 10, 65), (10, 468, 10, 66), (10, 495, 10, 68)]
set_option maxRecDepth 100000 in
theorem zFsA_a11 : ∀ e ∈ zFsA_l11, zFw e ∈ lw_tbl ∧ e.2.2.1 < 11 ∧ e.2.2.2 < (zT3 e.2.2.1).2.2 := List.forall_mem_cons.mpr ⟨zfw_176, List.forall_mem_cons.mpr ⟨zfw_177, List.forall_mem_cons.mpr ⟨zfw_178, List.forall_mem_cons.mpr ⟨zfw_179, List.forall_mem_cons.mpr ⟨zfw_180, fun _ h => absurd h List.not_mem_nil⟩⟩⟩⟩⟩
set_option maxRecDepth 100000 in
theorem zFsA_j11 : ∀ e ∈ zFsA_l11, zFw e ∈ lw_tbl ∧ e.2.2.1 < 11 ∧ e.2.2.2 < (zT3 e.2.2.1).2.2 := zFsA_a11
set_option maxRecDepth 100000 in
theorem zFsA_j10 : ∀ e ∈ zFsA_l10 ++ (zFsA_l11), zFw e ∈ lw_tbl ∧ e.2.2.1 < 11 ∧ e.2.2.2 < (zT3 e.2.2.1).2.2 := z_split rfl zFsA_a10 zFsA_j11
set_option maxRecDepth 100000 in
theorem zFsA_j9 : ∀ e ∈ zFsA_l9 ++ (zFsA_l10 ++ (zFsA_l11)), zFw e ∈ lw_tbl ∧ e.2.2.1 < 11 ∧ e.2.2.2 < (zT3 e.2.2.1).2.2 := z_split rfl zFsA_a9 zFsA_j10
set_option maxRecDepth 100000 in
theorem zFsA_j8 : ∀ e ∈ zFsA_l8 ++ (zFsA_l9 ++ (zFsA_l10 ++ (zFsA_l11))), zFw e ∈ lw_tbl ∧ e.2.2.1 < 11 ∧ e.2.2.2 < (zT3 e.2.2.1).2.2 := z_split rfl zFsA_a8 zFsA_j9
set_option maxRecDepth 100000 in
theorem zFsA_j7 : ∀ e ∈ zFsA_l7 ++ (zFsA_l8 ++ (zFsA_l9 ++ (zFsA_l10 ++ (zFsA_l11)))), zFw e ∈ lw_tbl ∧ e.2.2.1 < 11 ∧ e.2.2.2 < (zT3 e.2.2.1).2.2 := z_split rfl zFsA_a7 zFsA_j8
set_option maxRecDepth 100000 in
theorem zFsA_j6 : ∀ e ∈ zFsA_l6 ++ (zFsA_l7 ++ (zFsA_l8 ++ (zFsA_l9 ++ (zFsA_l10 ++ (zFsA_l11))))), zFw e ∈ lw_tbl ∧ e.2.2.1 < 11 ∧ e.2.2.2 < (zT3 e.2.2.1).2.2 := z_split rfl zFsA_a6 zFsA_j7
set_option maxRecDepth 100000 in
theorem zFsA_j5 : ∀ e ∈ zFsA_l5 ++ (zFsA_l6 ++ (zFsA_l7 ++ (zFsA_l8 ++ (zFsA_l9 ++ (zFsA_l10 ++ (zFsA_l11)))))), zFw e ∈ lw_tbl ∧ e.2.2.1 < 11 ∧ e.2.2.2 < (zT3 e.2.2.1).2.2 := z_split rfl zFsA_a5 zFsA_j6
set_option maxRecDepth 100000 in
theorem zFsA_j4 : ∀ e ∈ zFsA_l4 ++ (zFsA_l5 ++ (zFsA_l6 ++ (zFsA_l7 ++ (zFsA_l8 ++ (zFsA_l9 ++ (zFsA_l10 ++ (zFsA_l11))))))), zFw e ∈ lw_tbl ∧ e.2.2.1 < 11 ∧ e.2.2.2 < (zT3 e.2.2.1).2.2 := z_split rfl zFsA_a4 zFsA_j5
set_option maxRecDepth 100000 in
theorem zFsA_j3 : ∀ e ∈ zFsA_l3 ++ (zFsA_l4 ++ (zFsA_l5 ++ (zFsA_l6 ++ (zFsA_l7 ++ (zFsA_l8 ++ (zFsA_l9 ++ (zFsA_l10 ++ (zFsA_l11)))))))), zFw e ∈ lw_tbl ∧ e.2.2.1 < 11 ∧ e.2.2.2 < (zT3 e.2.2.1).2.2 := z_split rfl zFsA_a3 zFsA_j4
set_option maxRecDepth 100000 in
theorem zFsA_j2 : ∀ e ∈ zFsA_l2 ++ (zFsA_l3 ++ (zFsA_l4 ++ (zFsA_l5 ++ (zFsA_l6 ++ (zFsA_l7 ++ (zFsA_l8 ++ (zFsA_l9 ++ (zFsA_l10 ++ (zFsA_l11))))))))), zFw e ∈ lw_tbl ∧ e.2.2.1 < 11 ∧ e.2.2.2 < (zT3 e.2.2.1).2.2 := z_split rfl zFsA_a2 zFsA_j3
set_option maxRecDepth 100000 in
theorem zFsA_j1 : ∀ e ∈ zFsA_l1 ++ (zFsA_l2 ++ (zFsA_l3 ++ (zFsA_l4 ++ (zFsA_l5 ++ (zFsA_l6 ++ (zFsA_l7 ++ (zFsA_l8 ++ (zFsA_l9 ++ (zFsA_l10 ++ (zFsA_l11)))))))))), zFw e ∈ lw_tbl ∧ e.2.2.1 < 11 ∧ e.2.2.2 < (zT3 e.2.2.1).2.2 := z_split rfl zFsA_a1 zFsA_j2
set_option maxRecDepth 100000 in
theorem zFsA_j0 : ∀ e ∈ zFsA_l0 ++ (zFsA_l1 ++ (zFsA_l2 ++ (zFsA_l3 ++ (zFsA_l4 ++ (zFsA_l5 ++ (zFsA_l6 ++ (zFsA_l7 ++ (zFsA_l8 ++ (zFsA_l9 ++ (zFsA_l10 ++ (zFsA_l11))))))))))), zFw e ∈ lw_tbl ∧ e.2.2.1 < 11 ∧ e.2.2.2 < (zT3 e.2.2.1).2.2 := z_split rfl zFsA_a0 zFsA_j1
set_option maxRecDepth 100000 in
theorem zFs_eq : zFs = zFsA_l0 ++ (zFsA_l1 ++ (zFsA_l2 ++ (zFsA_l3 ++ (zFsA_l4 ++ (zFsA_l5 ++ (zFsA_l6 ++ (zFsA_l7 ++ (zFsA_l8 ++ (zFsA_l9 ++ (zFsA_l10 ++ (zFsA_l11))))))))))) := rfl
set_option maxRecDepth 100000 in
theorem zFs_in {e : Nat × Nat × Nat × Nat} (h : e ∈ zFs) : zFw e ∈ lw_tbl ∧ e.2.2.1 < 11 ∧ e.2.2.2 < (zT3 e.2.2.1).2.2 := zFsA_j0 e (zFs_eq ▸ h)
set_option maxRecDepth 100000 in
theorem zmw_0 : Cond.methodLink (zOwnL.getD 0 "") 19 (zY 9) ∈ lw_tbl ∧ 0 < 9 ∧ 9 < 335 := ⟨zch3 (List.mem_of_getElem? (i := 106) rfl), by decide, by decide⟩
set_option maxRecDepth 100000 in
theorem zmw_1 : Cond.methodLink (zOwnL.getD 0 "") 25 (zY 87) ∈ lw_tbl ∧ 0 < 87 ∧ 87 < 335 := ⟨zch3 (List.mem_of_getElem? (i := 217) rfl), by decide, by decide⟩
set_option maxRecDepth 100000 in
theorem zmw_2 : Cond.methodLink (zOwnL.getD 0 "") 28 (zY 65) ∈ lw_tbl ∧ 0 < 65 ∧ 65 < 335 := ⟨zch3 (List.mem_of_getElem? (i := 218) rfl), by decide, by decide⟩
set_option maxRecDepth 100000 in
theorem zmw_3 : Cond.methodLink (zOwnL.getD 0 "") 34 (zY 110) ∈ lw_tbl ∧ 0 < 110 ∧ 110 < 335 := ⟨zch3 (List.mem_of_getElem? (i := 219) rfl), by decide, by decide⟩
set_option maxRecDepth 100000 in
theorem zmw_4 : Cond.methodLink (zOwnL.getD 0 "") 38 (zY 74) ∈ lw_tbl ∧ 0 < 74 ∧ 74 < 335 := ⟨zch3 (List.mem_of_getElem? (i := 223) rfl), by decide, by decide⟩
set_option maxRecDepth 100000 in
theorem zmw_5 : Cond.methodLink (zOwnL.getD 0 "") 42 (zY 77) ∈ lw_tbl ∧ 0 < 77 ∧ 77 < 335 := ⟨zch3 (List.mem_of_getElem? (i := 224) rfl), by decide, by decide⟩
set_option maxRecDepth 100000 in
theorem zmw_6 : Cond.methodLink (zOwnL.getD 0 "") 45 (zY 45) ∈ lw_tbl ∧ 0 < 45 ∧ 45 < 335 := ⟨zch2 (List.mem_of_getElem? (i := 39) rfl), by decide, by decide⟩
set_option maxRecDepth 100000 in
theorem zmw_7 : Cond.methodLink (zOwnL.getD 0 "") 49 (zY 71) ∈ lw_tbl ∧ 0 < 71 ∧ 71 < 335 := ⟨zch3 (List.mem_of_getElem? (i := 225) rfl), by decide, by decide⟩
set_option maxRecDepth 100000 in
theorem zmw_8 : Cond.methodLink (zOwnL.getD 0 "") 53 (zY 81) ∈ lw_tbl ∧ 0 < 81 ∧ 81 < 335 := ⟨zch3 (List.mem_of_getElem? (i := 226) rfl), by decide, by decide⟩
set_option maxRecDepth 100000 in
theorem zmw_9 : Cond.methodLink (zOwnL.getD 0 "") 63 (zY 46) ∈ lw_tbl ∧ 0 < 46 ∧ 46 < 335 := ⟨zch2 (List.mem_of_getElem? (i := 43) rfl), by decide, by decide⟩
set_option maxRecDepth 100000 in
theorem zmw_10 : Cond.methodLink (zOwnL.getD 0 "") 67 (zY 43) ∈ lw_tbl ∧ 0 < 43 ∧ 43 < 335 := ⟨zch2 (List.mem_of_getElem? (i := 55) rfl), by decide, by decide⟩
set_option maxRecDepth 100000 in
theorem zmw_11 : Cond.methodLink (zOwnL.getD 0 "") 71 (zY 44) ∈ lw_tbl ∧ 0 < 44 ∧ 44 < 335 := ⟨zch2 (List.mem_of_getElem? (i := 56) rfl), by decide, by decide⟩
set_option maxRecDepth 100000 in
theorem zmw_12 : Cond.methodLink (zOwnL.getD 1 "") 49 (zY 9) ∈ lw_tbl ∧ 0 < 9 ∧ 9 < 335 := ⟨zch1 (List.mem_of_getElem? (i := 173) rfl), by decide, by decide⟩
set_option maxRecDepth 100000 in
theorem zmw_13 : Cond.methodLink (zOwnL.getD 1 "") 66 (zY 22) ∈ lw_tbl ∧ 0 < 22 ∧ 22 < 335 := ⟨zch1 (List.mem_of_getElem? (i := 174) rfl), by decide, by decide⟩
set_option maxRecDepth 100000 in
theorem zmw_14 : Cond.methodLink (zOwnL.getD 1 "") 72 (zY 27) ∈ lw_tbl ∧ 0 < 27 ∧ 27 < 335 := ⟨zch1 (List.mem_of_getElem? (i := 199) rfl), by decide, by decide⟩
set_option maxRecDepth 100000 in
theorem zmw_15 : Cond.methodLink (zOwnL.getD 1 "") 82 (zY 29) ∈ lw_tbl ∧ 0 < 29 ∧ 29 < 335 := ⟨zch1 (List.mem_of_getElem? (i := 238) rfl), by decide, by decide⟩
set_option maxRecDepth 100000 in
theorem zmw_16 : Cond.methodLink (zOwnL.getD 1 "") 86 (zY 35) ∈ lw_tbl ∧ 0 < 35 ∧ 35 < 335 := ⟨zch1 (List.mem_of_getElem? (i := 239) rfl), by decide, by decide⟩
set_option maxRecDepth 100000 in
theorem zmw_17 : Cond.methodLink (zOwnL.getD 1 "") 90 (zY 28) ∈ lw_tbl ∧ 0 < 28 ∧ 28 < 335 := ⟨zch1 (List.mem_of_getElem? (i := 203) rfl), by decide, by decide⟩
set_option maxRecDepth 100000 in
theorem zmw_18 : Cond.methodLink (zOwnL.getD 1 "") 96 (zY 34) ∈ lw_tbl ∧ 0 < 34 ∧ 34 < 335 := ⟨zch1 (List.mem_of_getElem? (i := 232) rfl), by decide, by decide⟩
set_option maxRecDepth 100000 in
theorem zmw_19 : Cond.methodLink (zOwnL.getD 2 "") 21 (zY 180) ∈ lw_tbl ∧ 0 < 180 ∧ 180 < 335 := ⟨zch5 (List.mem_of_getElem? (i := 52) rfl), by decide, by decide⟩
set_option maxRecDepth 100000 in
theorem zmw_20 : Cond.methodLink (zOwnL.getD 2 "") 25 (zY 24) ∈ lw_tbl ∧ 0 < 24 ∧ 24 < 335 := ⟨zch5 (List.mem_of_getElem? (i := 56) rfl), by decide, by decide⟩
set_option maxRecDepth 100000 in
theorem zmw_21 : Cond.methodLink (zOwnL.getD 2 "") 29 (zY 181) ∈ lw_tbl ∧ 0 < 181 ∧ 181 < 335 := ⟨zch5 (List.mem_of_getElem? (i := 57) rfl), by decide, by decide⟩
set_option maxRecDepth 100000 in
theorem zmw_22 : Cond.methodLink (zOwnL.getD 3 "") 21 (zY 11) ∈ lw_tbl ∧ 0 < 11 ∧ 11 < 335 := ⟨zch1 (List.mem_of_getElem? (i := 19) rfl), by decide, by decide⟩
set_option maxRecDepth 100000 in
theorem zmw_23 : Cond.methodLink (zOwnL.getD 3 "") 28 (zY 92) ∈ lw_tbl ∧ 0 < 92 ∧ 92 < 335 := ⟨zch3 (List.mem_of_getElem? (i := 122) rfl), by decide, by decide⟩
set_option maxRecDepth 100000 in
theorem zmw_24 : Cond.methodLink (zOwnL.getD 3 "") 32 (zY 65) ∈ lw_tbl ∧ 0 < 65 ∧ 65 < 335 := ⟨zch3 (List.mem_of_getElem? (i := 177) rfl), by decide, by decide⟩
set_option maxRecDepth 100000 in
theorem zmw_25 : Cond.methodLink (zOwnL.getD 3 "") 38 (zY 98) ∈ lw_tbl ∧ 0 < 98 ∧ 98 < 335 := ⟨zch3 (List.mem_of_getElem? (i := 148) rfl), by decide, by decide⟩
set_option maxRecDepth 100000 in
theorem zmw_26 : Cond.methodLink (zOwnL.getD 3 "") 42 (zY 93) ∈ lw_tbl ∧ 0 < 93 ∧ 93 < 335 := ⟨zch3 (List.mem_of_getElem? (i := 126) rfl), by decide, by decide⟩
set_option maxRecDepth 100000 in
theorem zmw_27 : Cond.methodLink (zOwnL.getD 3 "") 45 (zY 77) ∈ lw_tbl ∧ 0 < 77 ∧ 77 < 335 := ⟨zch3 (List.mem_of_getElem? (i := 166) rfl), by decide, by decide⟩
set_option maxRecDepth 100000 in
theorem zmw_28 : Cond.methodLink (zOwnL.getD 3 "") 48 (zY 82) ∈ lw_tbl ∧ 0 < 82 ∧ 82 < 335 := ⟨zch3 (List.mem_of_getElem? (i := 152) rfl), by decide, by decide⟩
set_option maxRecDepth 100000 in
theorem zmw_29 : Cond.methodLink (zOwnL.getD 3 "") 52 (zY 96) ∈ lw_tbl ∧ 0 < 96 ∧ 96 < 335 := ⟨zch3 (List.mem_of_getElem? (i := 139) rfl), by decide, by decide⟩
set_option maxRecDepth 100000 in
theorem zmw_30 : Cond.methodLink (zOwnL.getD 3 "") 55 (zY 94) ∈ lw_tbl ∧ 0 < 94 ∧ 94 < 335 := ⟨zch3 (List.mem_of_getElem? (i := 130) rfl), by decide, by decide⟩
set_option maxRecDepth 100000 in
theorem zmw_31 : Cond.methodLink (zOwnL.getD 3 "") 58 (zY 95) ∈ lw_tbl ∧ 0 < 95 ∧ 95 < 335 := ⟨zch3 (List.mem_of_getElem? (i := 134) rfl), by decide, by decide⟩
set_option maxRecDepth 100000 in
theorem zmw_32 : Cond.methodLink (zOwnL.getD 3 "") 61 (zY 74) ∈ lw_tbl ∧ 0 < 74 ∧ 74 < 335 := ⟨zch3 (List.mem_of_getElem? (i := 138) rfl), by decide, by decide⟩
set_option maxRecDepth 100000 in
theorem zmw_33 : Cond.methodLink (zOwnL.getD 3 "") 65 (zY 66) ∈ lw_tbl ∧ 0 < 66 ∧ 66 < 335 := ⟨zch3 (List.mem_of_getElem? (i := 143) rfl), by decide, by decide⟩
set_option maxRecDepth 100000 in
theorem zmw_34 : Cond.methodLink (zOwnL.getD 3 "") 69 (zY 97) ∈ lw_tbl ∧ 0 < 97 ∧ 97 < 335 := ⟨zch3 (List.mem_of_getElem? (i := 144) rfl), by decide, by decide⟩
set_option maxRecDepth 100000 in
theorem zmw_35 : Cond.methodLink (zOwnL.getD 3 "") 72 (zY 99) ∈ lw_tbl ∧ 0 < 99 ∧ 99 < 335 := ⟨zch3 (List.mem_of_getElem? (i := 154) rfl), by decide, by decide⟩
set_option maxRecDepth 100000 in
theorem zmw_36 : Cond.methodLink (zOwnL.getD 3 "") 75 (zY 81) ∈ lw_tbl ∧ 0 < 81 ∧ 81 < 335 := ⟨zch3 (List.mem_of_getElem? (i := 153) rfl), by decide, by decide⟩
set_option maxRecDepth 100000 in
theorem zmw_37 : Cond.methodLink (zOwnL.getD 3 "") 79 (zY 68) ∈ lw_tbl ∧ 0 < 68 ∧ 68 < 335 := ⟨zch3 (List.mem_of_getElem? (i := 158) rfl), by decide, by decide⟩
set_option maxRecDepth 100000 in
theorem zmw_38 : Cond.methodLink (zOwnL.getD 3 "") 84 (zY 70) ∈ lw_tbl ∧ 0 < 70 ∧ 70 < 335 := ⟨zch3 (List.mem_of_getElem? (i := 160) rfl), by decide, by decide⟩
set_option maxRecDepth 100000 in
theorem zmw_39 : Cond.methodLink (zOwnL.getD 3 "") 88 (zY 100) ∈ lw_tbl ∧ 0 < 100 ∧ 100 < 335 := ⟨zch3 (List.mem_of_getElem? (i := 161) rfl), by decide, by decide⟩
set_option maxRecDepth 100000 in
theorem zmw_40 : Cond.methodLink (zOwnL.getD 3 "") 94 (zY 101) ∈ lw_tbl ∧ 0 < 101 ∧ 101 < 335 := ⟨zch3 (List.mem_of_getElem? (i := 168) rfl), by decide, by decide⟩
set_option maxRecDepth 100000 in
theorem zmw_41 : Cond.methodLink (zOwnL.getD 3 "") 98 (zY 71) ∈ lw_tbl ∧ 0 < 71 ∧ 71 < 335 := ⟨zch3 (List.mem_of_getElem? (i := 165) rfl), by decide, by decide⟩
set_option maxRecDepth 100000 in
theorem zmw_42 : Cond.methodLink (zOwnL.getD 3 "") 113 (zY 32) ∈ lw_tbl ∧ 0 < 32 ∧ 32 < 335 := ⟨zch1 (List.mem_of_getElem? (i := 223) rfl), by decide, by decide⟩
set_option maxRecDepth 100000 in
theorem zmw_43 : Cond.methodLink (zOwnL.getD 3 "") 124 (zY 29) ∈ lw_tbl ∧ 0 < 29 ∧ 29 < 335 := ⟨zch1 (List.mem_of_getElem? (i := 207) rfl), by decide, by decide⟩
set_option maxRecDepth 100000 in
theorem zmw_44 : Cond.methodLink (zOwnL.getD 3 "") 134 (zY 25) ∈ lw_tbl ∧ 0 < 25 ∧ 25 < 335 := ⟨zch1 (List.mem_of_getElem? (i := 218) rfl), by decide, by decide⟩
set_option maxRecDepth 100000 in
theorem zmw_45 : Cond.methodLink (zOwnL.getD 3 "") 138 (zY 31) ∈ lw_tbl ∧ 0 < 31 ∧ 31 < 335 := ⟨zch1 (List.mem_of_getElem? (i := 219) rfl), by decide, by decide⟩
set_option maxRecDepth 100000 in
theorem zmw_46 : Cond.methodLink (zOwnL.getD 3 "") 142 (zY 33) ∈ lw_tbl ∧ 0 < 33 ∧ 33 < 335 := ⟨zch1 (List.mem_of_getElem? (i := 227) rfl), by decide, by decide⟩
set_option maxRecDepth 100000 in
theorem zmw_47 : Cond.methodLink (zOwnL.getD 4 "") 40 (zY 86) ∈ lw_tbl ∧ 0 < 86 ∧ 86 < 335 := ⟨zch3 (List.mem_of_getElem? (i := 189) rfl), by decide, by decide⟩
set_option maxRecDepth 100000 in
theorem zmw_48 : Cond.methodLink (zOwnL.getD 4 "") 43 (zY 65) ∈ lw_tbl ∧ 0 < 65 ∧ 65 < 335 := ⟨zch3 (List.mem_of_getElem? (i := 190) rfl), by decide, by decide⟩
set_option maxRecDepth 100000 in
theorem zmw_49 : Cond.methodLink (zOwnL.getD 4 "") 49 (zY 105) ∈ lw_tbl ∧ 0 < 105 ∧ 105 < 335 := ⟨zch3 (List.mem_of_getElem? (i := 191) rfl), by decide, by decide⟩
set_option maxRecDepth 100000 in
theorem zmw_50 : Cond.methodLink (zOwnL.getD 4 "") 53 (zY 38) ∈ lw_tbl ∧ 0 < 38 ∧ 38 < 335 := ⟨zch3 (List.mem_of_getElem? (i := 195) rfl), by decide, by decide⟩
set_option maxRecDepth 100000 in
theorem zmw_51 : Cond.methodLink (zOwnL.getD 4 "") 58 (zY 74) ∈ lw_tbl ∧ 0 < 74 ∧ 74 < 335 := ⟨zch3 (List.mem_of_getElem? (i := 196) rfl), by decide, by decide⟩
set_option maxRecDepth 100000 in
theorem zmw_52 : Cond.methodLink (zOwnL.getD 4 "") 62 (zY 77) ∈ lw_tbl ∧ 0 < 77 ∧ 77 < 335 := ⟨zch3 (List.mem_of_getElem? (i := 197) rfl), by decide, by decide⟩
set_option maxRecDepth 100000 in
theorem zmw_53 : Cond.methodLink (zOwnL.getD 4 "") 65 (zY 40) ∈ lw_tbl ∧ 0 < 40 ∧ 40 < 335 := ⟨zch3 (List.mem_of_getElem? (i := 198) rfl), by decide, by decide⟩
set_option maxRecDepth 100000 in
theorem zmw_54 : Cond.methodLink (zOwnL.getD 4 "") 69 (zY 71) ∈ lw_tbl ∧ 0 < 71 ∧ 71 < 335 := ⟨zch3 (List.mem_of_getElem? (i := 199) rfl), by decide, by decide⟩
set_option maxRecDepth 100000 in
theorem zmw_55 : Cond.methodLink (zOwnL.getD 4 "") 73 (zY 106) ∈ lw_tbl ∧ 0 < 106 ∧ 106 < 335 := ⟨zch3 (List.mem_of_getElem? (i := 200) rfl), by decide, by decide⟩
set_option maxRecDepth 100000 in
theorem zmw_56 : Cond.methodLink (zOwnL.getD 4 "") 77 (zY 95) ∈ lw_tbl ∧ 0 < 95 ∧ 95 < 335 := ⟨zch3 (List.mem_of_getElem? (i := 204) rfl), by decide, by decide⟩
set_option maxRecDepth 100000 in
theorem zmw_57 : Cond.methodLink (zOwnL.getD 4 "") 80 (zY 81) ∈ lw_tbl ∧ 0 < 81 ∧ 81 < 335 := ⟨zch3 (List.mem_of_getElem? (i := 205) rfl), by decide, by decide⟩
set_option maxRecDepth 100000 in
theorem zmw_58 : Cond.methodLink (zOwnL.getD 4 "") 84 (zY 26) ∈ lw_tbl ∧ 0 < 26 ∧ 26 < 335 := ⟨zch3 (List.mem_of_getElem? (i := 203) rfl), by decide, by decide⟩
set_option maxRecDepth 100000 in
theorem zmw_59 : Cond.methodLink (zOwnL.getD 4 "") 86 (zY 207) ∈ lw_tbl ∧ 0 < 207 ∧ 207 < 335 := ⟨zch5 (List.mem_of_getElem? (i := 160) rfl), by decide, by decide⟩
set_option maxRecDepth 100000 in
theorem zmw_60 : Cond.methodLink (zOwnL.getD 4 "") 90 (zY 51) ∈ lw_tbl ∧ 0 < 51 ∧ 51 < 335 := ⟨zch2 (List.mem_of_getElem? (i := 66) rfl), by decide, by decide⟩
set_option maxRecDepth 100000 in
theorem zmw_61 : Cond.methodLink (zOwnL.getD 4 "") 94 (zY 52) ∈ lw_tbl ∧ 0 < 52 ∧ 52 < 335 := ⟨zch2 (List.mem_of_getElem? (i := 70) rfl), by decide, by decide⟩
set_option maxRecDepth 100000 in
theorem zmw_62 : Cond.methodLink (zOwnL.getD 5 "") 16 (zY 190) ∈ lw_tbl ∧ 0 < 190 ∧ 190 < 335 := ⟨zch5 (List.mem_of_getElem? (i := 93) rfl), by decide, by decide⟩
set_option maxRecDepth 100000 in
theorem zmw_63 : Cond.methodLink (zOwnL.getD 5 "") 20 (zY 9) ∈ lw_tbl ∧ 0 < 9 ∧ 9 < 335 := ⟨zch5 (List.mem_of_getElem? (i := 97) rfl), by decide, by decide⟩
set_option maxRecDepth 100000 in
theorem zmw_64 : Cond.methodLink (zOwnL.getD 5 "") 38 (zY 191) ∈ lw_tbl ∧ 0 < 191 ∧ 191 < 335 := ⟨zch5 (List.mem_of_getElem? (i := 99) rfl), by decide, by decide⟩
set_option maxRecDepth 100000 in
theorem zmw_65 : Cond.methodLink (zOwnL.getD 5 "") 53 (zY 192) ∈ lw_tbl ∧ 0 < 192 ∧ 192 < 335 := ⟨zch5 (List.mem_of_getElem? (i := 105) rfl), by decide, by decide⟩
set_option maxRecDepth 100000 in
theorem zmw_66 : Cond.methodLink (zOwnL.getD 6 "") 41 (zY 8) ∈ lw_tbl ∧ 0 < 8 ∧ 8 < 335 := ⟨zch0 (List.mem_of_getElem? (i := 196) rfl), by decide, by decide⟩
set_option maxRecDepth 100000 in
theorem zmw_67 : Cond.methodLink (zOwnL.getD 6 "") 44 (zY 9) ∈ lw_tbl ∧ 0 < 9 ∧ 9 < 335 := ⟨zch0 (List.mem_of_getElem? (i := 200) rfl), by decide, by decide⟩
set_option maxRecDepth 100000 in
theorem zmw_68 : Cond.methodLink (zOwnL.getD 6 "") 66 (zY 65) ∈ lw_tbl ∧ 0 < 65 ∧ 65 < 335 := ⟨zch2 (List.mem_of_getElem? (i := 193) rfl), by decide, by decide⟩
set_option maxRecDepth 100000 in
theorem zmw_69 : Cond.methodLink (zOwnL.getD 6 "") 72 (zY 67) ∈ lw_tbl ∧ 0 < 67 ∧ 67 < 335 := ⟨zch2 (List.mem_of_getElem? (i := 201) rfl), by decide, by decide⟩
set_option maxRecDepth 100000 in
theorem zmw_70 : Cond.methodLink (zOwnL.getD 6 "") 76 (zY 83) ∈ lw_tbl ∧ 0 < 83 ∧ 83 < 335 := ⟨zch3 (List.mem_of_getElem? (i := 84) rfl), by decide, by decide⟩
set_option maxRecDepth 100000 in
theorem zmw_71 : Cond.methodLink (zOwnL.getD 6 "") 79 (zY 84) ∈ lw_tbl ∧ 0 < 84 ∧ 84 < 335 := ⟨zch3 (List.mem_of_getElem? (i := 88) rfl), by decide, by decide⟩
set_option maxRecDepth 100000 in
theorem zmw_72 : Cond.methodLink (zOwnL.getD 6 "") 82 (zY 68) ∈ lw_tbl ∧ 0 < 68 ∧ 68 < 335 := ⟨zch2 (List.mem_of_getElem? (i := 205) rfl), by decide, by decide⟩
set_option maxRecDepth 100000 in
theorem zmw_73 : Cond.methodLink (zOwnL.getD 6 "") 85 (zY 69) ∈ lw_tbl ∧ 0 < 69 ∧ 69 < 335 := ⟨zch2 (List.mem_of_getElem? (i := 209) rfl), by decide, by decide⟩
set_option maxRecDepth 100000 in
theorem zmw_74 : Cond.methodLink (zOwnL.getD 6 "") 89 (zY 71) ∈ lw_tbl ∧ 0 < 71 ∧ 71 < 335 := ⟨zch3 (List.mem_of_getElem? (i := 36) rfl), by decide, by decide⟩
set_option maxRecDepth 100000 in
theorem zmw_75 : Cond.methodLink (zOwnL.getD 6 "") 93 (zY 73) ∈ lw_tbl ∧ 0 < 73 ∧ 73 < 335 := ⟨zch3 (List.mem_of_getElem? (i := 44) rfl), by decide, by decide⟩
set_option maxRecDepth 100000 in
theorem zmw_76 : Cond.methodLink (zOwnL.getD 6 "") 97 (zY 81) ∈ lw_tbl ∧ 0 < 81 ∧ 81 < 335 := ⟨zch3 (List.mem_of_getElem? (i := 76) rfl), by decide, by decide⟩
set_option maxRecDepth 100000 in
theorem zmw_77 : Cond.methodLink (zOwnL.getD 6 "") 103 (zY 70) ∈ lw_tbl ∧ 0 < 70 ∧ 70 < 335 := ⟨zch2 (List.mem_of_getElem? (i := 213) rfl), by decide, by decide⟩
set_option maxRecDepth 100000 in
theorem zmw_78 : Cond.methodLink (zOwnL.getD 6 "") 125 (zY 74) ∈ lw_tbl ∧ 0 < 74 ∧ 74 < 335 := ⟨zch3 (List.mem_of_getElem? (i := 48) rfl), by decide, by decide⟩
set_option maxRecDepth 100000 in
theorem zmw_79 : Cond.methodLink (zOwnL.getD 6 "") 129 (zY 76) ∈ lw_tbl ∧ 0 < 76 ∧ 76 < 335 := ⟨zch3 (List.mem_of_getElem? (i := 55) rfl), by decide, by decide⟩
set_option maxRecDepth 100000 in
theorem zmw_80 : Cond.methodLink (zOwnL.getD 6 "") 133 (zY 78) ∈ lw_tbl ∧ 0 < 78 ∧ 78 < 335 := ⟨zch3 (List.mem_of_getElem? (i := 64) rfl), by decide, by decide⟩
set_option maxRecDepth 100000 in
theorem zmw_81 : Cond.methodLink (zOwnL.getD 6 "") 136 (zY 79) ∈ lw_tbl ∧ 0 < 79 ∧ 79 < 335 := ⟨zch3 (List.mem_of_getElem? (i := 68) rfl), by decide, by decide⟩
set_option maxRecDepth 100000 in
theorem zmw_82 : Cond.methodLink (zOwnL.getD 6 "") 139 (zY 80) ∈ lw_tbl ∧ 0 < 80 ∧ 80 < 335 := ⟨zch3 (List.mem_of_getElem? (i := 72) rfl), by decide, by decide⟩
set_option maxRecDepth 100000 in
theorem zmw_83 : Cond.methodLink (zOwnL.getD 6 "") 142 (zY 38) ∈ lw_tbl ∧ 0 < 38 ∧ 38 < 335 := ⟨zch3 (List.mem_of_getElem? (i := 59) rfl), by decide, by decide⟩
set_option maxRecDepth 100000 in
theorem zmw_84 : Cond.methodLink (zOwnL.getD 6 "") 146 (zY 77) ∈ lw_tbl ∧ 0 < 77 ∧ 77 < 335 := ⟨zch3 (List.mem_of_getElem? (i := 60) rfl), by decide, by decide⟩
set_option maxRecDepth 100000 in
theorem zmw_85 : Cond.methodLink (zOwnL.getD 6 "") 157 (zY 30) ∈ lw_tbl ∧ 0 < 30 ∧ 30 < 335 := ⟨zch1 (List.mem_of_getElem? (i := 211) rfl), by decide, by decide⟩
set_option maxRecDepth 100000 in
theorem zmw_86 : Cond.methodLink (zOwnL.getD 6 "") 160 (zY 26) ∈ lw_tbl ∧ 0 < 26 ∧ 26 < 335 := ⟨zch1 (List.mem_of_getElem? (i := 192) rfl), by decide, by decide⟩
set_option maxRecDepth 100000 in
theorem zmw_87 : Cond.methodLink (zOwnL.getD 6 "") 163 (zY 24) ∈ lw_tbl ∧ 0 < 24 ∧ 24 < 335 := ⟨zch1 (List.mem_of_getElem? (i := 182) rfl), by decide, by decide⟩
set_option maxRecDepth 100000 in
theorem zmw_88 : Cond.methodLink (zOwnL.getD 6 "") 169 (zY 25) ∈ lw_tbl ∧ 0 < 25 ∧ 25 < 335 := ⟨zch1 (List.mem_of_getElem? (i := 188) rfl), by decide, by decide⟩
set_option maxRecDepth 100000 in
theorem zmw_89 : Cond.methodLink (zOwnL.getD 6 "") 172 (zY 23) ∈ lw_tbl ∧ 0 < 23 ∧ 23 < 335 := ⟨zch1 (List.mem_of_getElem? (i := 178) rfl), by decide, by decide⟩
set_option maxRecDepth 100000 in
theorem zmw_90 : Cond.methodLink (zOwnL.getD 6 "") 176 (zY 113) ∈ lw_tbl ∧ 0 < 113 ∧ 113 < 335 := ⟨zch4 (List.mem_of_getElem? (i := 205) rfl), by decide, by decide⟩
set_option maxRecDepth 100000 in
theorem zmw_91 : Cond.methodLink (zOwnL.getD 7 "") 49 (zY 38) ∈ lw_tbl ∧ 0 < 38 ∧ 38 < 335 := ⟨zch4 (List.mem_of_getElem? (i := 135) rfl), by decide, by decide⟩
set_option maxRecDepth 100000 in
theorem zmw_92 : Cond.methodLink (zOwnL.getD 7 "") 54 (zY 9) ∈ lw_tbl ∧ 0 < 9 ∧ 9 < 335 := ⟨zch4 (List.mem_of_getElem? (i := 136) rfl), by decide, by decide⟩
set_option maxRecDepth 100000 in
theorem zmw_93 : Cond.methodLink (zOwnL.getD 7 "") 60 (zY 142) ∈ lw_tbl ∧ 0 < 142 ∧ 142 < 335 := ⟨zch4 (List.mem_of_getElem? (i := 137) rfl), by decide, by decide⟩
set_option maxRecDepth 100000 in
theorem zmw_94 : Cond.methodLink (zOwnL.getD 7 "") 66 (zY 143) ∈ lw_tbl ∧ 0 < 143 ∧ 143 < 335 := ⟨zch4 (List.mem_of_getElem? (i := 141) rfl), by decide, by decide⟩
set_option maxRecDepth 100000 in
theorem zmw_95 : Cond.methodLink (zOwnL.getD 7 "") 70 (zY 145) ∈ lw_tbl ∧ 0 < 145 ∧ 145 < 335 := ⟨zch4 (List.mem_of_getElem? (i := 150) rfl), by decide, by decide⟩
set_option maxRecDepth 100000 in
theorem zmw_96 : Cond.methodLink (zOwnL.getD 7 "") 73 (zY 146) ∈ lw_tbl ∧ 0 < 146 ∧ 146 < 335 := ⟨zch4 (List.mem_of_getElem? (i := 154) rfl), by decide, by decide⟩
set_option maxRecDepth 100000 in
theorem zmw_97 : Cond.methodLink (zOwnL.getD 7 "") 77 (zY 26) ∈ lw_tbl ∧ 0 < 26 ∧ 26 < 335 := ⟨zch4 (List.mem_of_getElem? (i := 145) rfl), by decide, by decide⟩
set_option maxRecDepth 100000 in
theorem zmw_98 : Cond.methodLink (zOwnL.getD 7 "") 79 (zY 144) ∈ lw_tbl ∧ 0 < 144 ∧ 144 < 335 := ⟨zch4 (List.mem_of_getElem? (i := 146) rfl), by decide, by decide⟩
set_option maxRecDepth 100000 in
theorem zmw_99 : Cond.methodLink (zOwnL.getD 7 "") 83 (zY 147) ∈ lw_tbl ∧ 0 < 147 ∧ 147 < 335 := ⟨zch4 (List.mem_of_getElem? (i := 158) rfl), by decide, by decide⟩
set_option maxRecDepth 100000 in
theorem zmw_100 : Cond.methodLink (zOwnL.getD 7 "") 87 (zY 148) ∈ lw_tbl ∧ 0 < 148 ∧ 148 < 335 := ⟨zch4 (List.mem_of_getElem? (i := 162) rfl), by decide, by decide⟩
set_option maxRecDepth 100000 in
theorem zmw_101 : Cond.methodLink (zOwnL.getD 7 "") 91 (zY 149) ∈ lw_tbl ∧ 0 < 149 ∧ 149 < 335 := ⟨zch4 (List.mem_of_getElem? (i := 166) rfl), by decide, by decide⟩
set_option maxRecDepth 100000 in
theorem zmw_102 : Cond.methodLink (zOwnL.getD 7 "") 95 (zY 150) ∈ lw_tbl ∧ 0 < 150 ∧ 150 < 335 := ⟨zch4 (List.mem_of_getElem? (i := 170) rfl), by decide, by decide⟩
set_option maxRecDepth 100000 in
theorem zmw_103 : Cond.methodLink (zOwnL.getD 7 "") 99 (zY 22) ∈ lw_tbl ∧ 0 < 22 ∧ 22 < 335 := ⟨zch4 (List.mem_of_getElem? (i := 174) rfl), by decide, by decide⟩
set_option maxRecDepth 100000 in
theorem zmw_104 : Cond.methodLink (zOwnL.getD 7 "") 103 (zY 28) ∈ lw_tbl ∧ 0 < 28 ∧ 28 < 335 := ⟨zch4 (List.mem_of_getElem? (i := 175) rfl), by decide, by decide⟩
set_option maxRecDepth 100000 in
theorem zmw_105 : Cond.methodLink (zOwnL.getD 7 "") 113 (zY 24) ∈ lw_tbl ∧ 0 < 24 ∧ 24 < 335 := ⟨zch4 (List.mem_of_getElem? (i := 177) rfl), by decide, by decide⟩
set_option maxRecDepth 100000 in
theorem zmw_106 : Cond.methodLink (zOwnL.getD 7 "") 119 (zY 29) ∈ lw_tbl ∧ 0 < 29 ∧ 29 < 335 := ⟨zch4 (List.mem_of_getElem? (i := 178) rfl), by decide, by decide⟩
set_option maxRecDepth 100000 in
theorem zmw_107 : Cond.methodLink (zOwnL.getD 7 "") 123 (zY 151) ∈ lw_tbl ∧ 0 < 151 ∧ 151 < 335 := ⟨zch4 (List.mem_of_getElem? (i := 179) rfl), by decide, by decide⟩
set_option maxRecDepth 100000 in
theorem zmw_108 : Cond.methodLink (zOwnL.getD 8 "") 34 (zY 66) ∈ lw_tbl ∧ 0 < 66 ∧ 66 < 335 := ⟨zch2 (List.mem_of_getElem? (i := 197) rfl), by decide, by decide⟩
set_option maxRecDepth 100000 in
theorem zmw_109 : Cond.methodLink (zOwnL.getD 8 "") 38 (zY 75) ∈ lw_tbl ∧ 0 < 75 ∧ 75 < 335 := ⟨zch3 (List.mem_of_getElem? (i := 52) rfl), by decide, by decide⟩
set_option maxRecDepth 100000 in
theorem zmw_110 : Cond.methodLink (zOwnL.getD 8 "") 42 (zY 72) ∈ lw_tbl ∧ 0 < 72 ∧ 72 < 335 := ⟨zch3 (List.mem_of_getElem? (i := 40) rfl), by decide, by decide⟩
set_option maxRecDepth 100000 in
theorem zmw_111 : Cond.methodLink (zOwnL.getD 8 "") 55 (zY 82) ∈ lw_tbl ∧ 0 < 82 ∧ 82 < 335 := ⟨zch3 (List.mem_of_getElem? (i := 80) rfl), by decide, by decide⟩
set_option maxRecDepth 100000 in
theorem zmw_112 : Cond.methodLink (zOwnL.getD 9 "") 46 (zY 7) ∈ lw_tbl ∧ 0 < 7 ∧ 7 < 335 := ⟨zch0 (List.mem_of_getElem? (i := 189) rfl), by decide, by decide⟩
set_option maxRecDepth 100000 in
theorem zmw_113 : Cond.methodLink (zOwnL.getD 9 "") 56 (zY 10) ∈ lw_tbl ∧ 0 < 10 ∧ 10 < 335 := ⟨zch1 (List.mem_of_getElem? (i := 15) rfl), by decide, by decide⟩
set_option maxRecDepth 100000 in
theorem zmw_114 : Cond.methodLink (zOwnL.getD 9 "") 101 (zY 15) ∈ lw_tbl ∧ 0 < 15 ∧ 15 < 335 := ⟨zch1 (List.mem_of_getElem? (i := 145) rfl), by decide, by decide⟩
set_option maxRecDepth 100000 in
theorem zmw_115 : Cond.methodLink (zOwnL.getD 9 "") 105 (zY 16) ∈ lw_tbl ∧ 0 < 16 ∧ 16 < 335 := ⟨zch1 (List.mem_of_getElem? (i := 149) rfl), by decide, by decide⟩
set_option maxRecDepth 100000 in
theorem zmw_116 : Cond.methodLink (zOwnL.getD 9 "") 112 (zY 60) ∈ lw_tbl ∧ 0 < 60 ∧ 60 < 335 := ⟨zch2 (List.mem_of_getElem? (i := 105) rfl), by decide, by decide⟩
set_option maxRecDepth 100000 in
theorem zmw_117 : Cond.methodLink (zOwnL.getD 9 "") 116 (zY 64) ∈ lw_tbl ∧ 0 < 64 ∧ 64 < 335 := ⟨zch2 (List.mem_of_getElem? (i := 189) rfl), by decide, by decide⟩
set_option maxRecDepth 100000 in
theorem zmw_118 : Cond.methodLink (zOwnL.getD 9 "") 120 (zY 77) ∈ lw_tbl ∧ 0 < 77 ∧ 77 < 335 := ⟨zch3 (List.mem_of_getElem? (i := 92) rfl), by decide, by decide⟩
set_option maxRecDepth 100000 in
theorem zmw_119 : Cond.methodLink (zOwnL.getD 9 "") 123 (zY 85) ∈ lw_tbl ∧ 0 < 85 ∧ 85 < 335 := ⟨zch3 (List.mem_of_getElem? (i := 93) rfl), by decide, by decide⟩
set_option maxRecDepth 100000 in
theorem zmw_120 : Cond.methodLink (zOwnL.getD 9 "") 127 (zY 11) ∈ lw_tbl ∧ 0 < 11 ∧ 11 < 335 := ⟨zch3 (List.mem_of_getElem? (i := 97) rfl), by decide, by decide⟩
set_option maxRecDepth 100000 in
theorem zmw_121 : Cond.methodLink (zOwnL.getD 9 "") 130 (zY 86) ∈ lw_tbl ∧ 0 < 86 ∧ 86 < 335 := ⟨zch3 (List.mem_of_getElem? (i := 98) rfl), by decide, by decide⟩
set_option maxRecDepth 100000 in
theorem zmw_122 : Cond.methodLink (zOwnL.getD 9 "") 133 (zY 87) ∈ lw_tbl ∧ 0 < 87 ∧ 87 < 335 := ⟨zch3 (List.mem_of_getElem? (i := 102) rfl), by decide, by decide⟩
set_option maxRecDepth 100000 in
theorem zmw_123 : Cond.methodLink (zOwnL.getD 9 "") 134 (zY 88) ∈ lw_tbl ∧ 0 < 88 ∧ 88 < 335 := ⟨zch3 (List.mem_of_getElem? (i := 107) rfl), by decide, by decide⟩
set_option maxRecDepth 100000 in
theorem zmw_124 : Cond.methodLink (zOwnL.getD 9 "") 137 (zY 38) ∈ lw_tbl ∧ 0 < 38 ∧ 38 < 335 := ⟨zch2 (List.mem_of_getElem? (i := 11) rfl), by decide, by decide⟩
set_option maxRecDepth 100000 in
theorem zmw_125 : Cond.methodLink (zOwnL.getD 9 "") 140 (zY 91) ∈ lw_tbl ∧ 0 < 91 ∧ 91 < 335 := ⟨zch3 (List.mem_of_getElem? (i := 118) rfl), by decide, by decide⟩
set_option maxRecDepth 100000 in
theorem zmw_126 : Cond.methodLink (zOwnL.getD 9 "") 141 (zY 104) ∈ lw_tbl ∧ 0 < 104 ∧ 104 < 335 := ⟨zch3 (List.mem_of_getElem? (i := 185) rfl), by decide, by decide⟩
set_option maxRecDepth 100000 in
theorem zmw_127 : Cond.methodLink (zOwnL.getD 9 "") 147 (zY 109) ∈ lw_tbl ∧ 0 < 109 ∧ 109 < 335 := ⟨zch3 (List.mem_of_getElem? (i := 213) rfl), by decide, by decide⟩
set_option maxRecDepth 100000 in
theorem zmw_128 : Cond.methodLink (zOwnL.getD 9 "") 152 (zY 61) ∈ lw_tbl ∧ 0 < 61 ∧ 61 < 335 := ⟨zch2 (List.mem_of_getElem? (i := 110) rfl), by decide, by decide⟩
set_option maxRecDepth 100000 in
theorem zmw_129 : Cond.methodLink (zOwnL.getD 9 "") 156 (zY 26) ∈ lw_tbl ∧ 0 < 26 ∧ 26 < 335 := ⟨zch3 (List.mem_of_getElem? (i := 234) rfl), by decide, by decide⟩
set_option maxRecDepth 100000 in
theorem zmw_130 : Cond.methodLink (zOwnL.getD 9 "") 159 (zY 113) ∈ lw_tbl ∧ 0 < 113 ∧ 113 < 335 := ⟨zch3 (List.mem_of_getElem? (i := 235) rfl), by decide, by decide⟩
set_option maxRecDepth 100000 in
theorem zmw_131 : Cond.methodLink (zOwnL.getD 9 "") 162 (zY 114) ∈ lw_tbl ∧ 0 < 114 ∧ 114 < 335 := ⟨zch3 (List.mem_of_getElem? (i := 239) rfl), by decide, by decide⟩
set_option maxRecDepth 100000 in
theorem zmw_132 : Cond.methodLink (zOwnL.getD 9 "") 165 (zY 43) ∈ lw_tbl ∧ 0 < 43 ∧ 43 < 335 := ⟨zch2 (List.mem_of_getElem? (i := 31) rfl), by decide, by decide⟩
set_option maxRecDepth 100000 in
theorem zmw_133 : Cond.methodLink (zOwnL.getD 9 "") 174 (zY 117) ∈ lw_tbl ∧ 0 < 117 ∧ 117 < 335 := ⟨zch4 (List.mem_of_getElem? (i := 11) rfl), by decide, by decide⟩
set_option maxRecDepth 100000 in
theorem zmw_134 : Cond.methodLink (zOwnL.getD 9 "") 188 (zY 30) ∈ lw_tbl ∧ 0 < 30 ∧ 30 < 335 := ⟨zch4 (List.mem_of_getElem? (i := 52) rfl), by decide, by decide⟩
set_option maxRecDepth 100000 in
theorem zmw_135 : Cond.methodLink (zOwnL.getD 9 "") 192 (zY 31) ∈ lw_tbl ∧ 0 < 31 ∧ 31 < 335 := ⟨zch4 (List.mem_of_getElem? (i := 60) rfl), by decide, by decide⟩
set_option maxRecDepth 100000 in
theorem zmw_136 : Cond.methodLink (zOwnL.getD 9 "") 196 (zY 19) ∈ lw_tbl ∧ 0 < 19 ∧ 19 < 335 := ⟨zch1 (List.mem_of_getElem? (i := 161) rfl), by decide, by decide⟩
set_option maxRecDepth 100000 in
theorem zmw_137 : Cond.methodLink (zOwnL.getD 9 "") 209 (zY 20) ∈ lw_tbl ∧ 0 < 20 ∧ 20 < 335 := ⟨zch1 (List.mem_of_getElem? (i := 165) rfl), by decide, by decide⟩
set_option maxRecDepth 100000 in
theorem zmw_138 : Cond.methodLink (zOwnL.getD 9 "") 212 (zY 21) ∈ lw_tbl ∧ 0 < 21 ∧ 21 < 335 := ⟨zch1 (List.mem_of_getElem? (i := 169) rfl), by decide, by decide⟩
set_option maxRecDepth 100000 in
theorem zmw_139 : Cond.methodLink (zOwnL.getD 9 "") 225 (zY 39) ∈ lw_tbl ∧ 0 < 39 ∧ 39 < 335 := ⟨zch2 (List.mem_of_getElem? (i := 15) rfl), by decide, by decide⟩
set_option maxRecDepth 100000 in
theorem zmw_140 : Cond.methodLink (zOwnL.getD 9 "") 228 (zY 40) ∈ lw_tbl ∧ 0 < 40 ∧ 40 < 335 := ⟨zch2 (List.mem_of_getElem? (i := 19) rfl), by decide, by decide⟩
set_option maxRecDepth 100000 in
theorem zmw_141 : Cond.methodLink (zOwnL.getD 9 "") 232 (zY 41) ∈ lw_tbl ∧ 0 < 41 ∧ 41 < 335 := ⟨zch2 (List.mem_of_getElem? (i := 23) rfl), by decide, by decide⟩
set_option maxRecDepth 100000 in
theorem zmw_142 : Cond.methodLink (zOwnL.getD 9 "") 235 (zY 140) ∈ lw_tbl ∧ 0 < 140 ∧ 140 < 335 := ⟨zch4 (List.mem_of_getElem? (i := 111) rfl), by decide, by decide⟩
set_option maxRecDepth 100000 in
theorem zmw_143 : Cond.methodLink (zOwnL.getD 9 "") 238 (zY 141) ∈ lw_tbl ∧ 0 < 141 ∧ 141 < 335 := ⟨zch4 (List.mem_of_getElem? (i := 131) rfl), by decide, by decide⟩
set_option maxRecDepth 100000 in
theorem zmw_144 : Cond.methodLink (zOwnL.getD 9 "") 247 (zY 154) ∈ lw_tbl ∧ 0 < 154 ∧ 154 < 335 := ⟨zch4 (List.mem_of_getElem? (i := 190) rfl), by decide, by decide⟩
set_option maxRecDepth 100000 in
theorem zmw_145 : Cond.methodLink (zOwnL.getD 9 "") 250 (zY 157) ∈ lw_tbl ∧ 0 < 157 ∧ 157 < 335 := ⟨zch4 (List.mem_of_getElem? (i := 201) rfl), by decide, by decide⟩
set_option maxRecDepth 100000 in
theorem zmw_146 : Cond.methodLink (zOwnL.getD 9 "") 254 (zY 24) ∈ lw_tbl ∧ 0 < 24 ∧ 24 < 335 := ⟨zch4 (List.mem_of_getElem? (i := 213) rfl), by decide, by decide⟩
set_option maxRecDepth 100000 in
theorem zmw_147 : Cond.methodLink (zOwnL.getD 9 "") 265 (zY 164) ∈ lw_tbl ∧ 0 < 164 ∧ 164 < 335 := ⟨zch4 (List.mem_of_getElem? (i := 232) rfl), by decide, by decide⟩
set_option maxRecDepth 100000 in
theorem zmw_148 : Cond.methodLink (zOwnL.getD 9 "") 269 (zY 165) ∈ lw_tbl ∧ 0 < 165 ∧ 165 < 335 := ⟨zch4 (List.mem_of_getElem? (i := 235) rfl), by decide, by decide⟩
set_option maxRecDepth 100000 in
theorem zmw_149 : Cond.methodLink (zOwnL.getD 9 "") 272 (zY 166) ∈ lw_tbl ∧ 0 < 166 ∧ 166 < 335 := ⟨zch4 (List.mem_of_getElem? (i := 239) rfl), by decide, by decide⟩
set_option maxRecDepth 100000 in
theorem zmw_150 : Cond.methodLink (zOwnL.getD 9 "") 278 (zY 174) ∈ lw_tbl ∧ 0 < 174 ∧ 174 < 335 := ⟨zch5 (List.mem_of_getElem? (i := 27) rfl), by decide, by decide⟩
set_option maxRecDepth 100000 in
theorem zmw_151 : Cond.methodLink (zOwnL.getD 9 "") 288 (zY 179) ∈ lw_tbl ∧ 0 < 179 ∧ 179 < 335 := ⟨zch5 (List.mem_of_getElem? (i := 47) rfl), by decide, by decide⟩
set_option maxRecDepth 100000 in
theorem zmw_152 : Cond.methodLink (zOwnL.getD 9 "") 296 (zY 184) ∈ lw_tbl ∧ 0 < 184 ∧ 184 < 335 := ⟨zch5 (List.mem_of_getElem? (i := 70) rfl), by decide, by decide⟩
set_option maxRecDepth 100000 in
theorem zmw_153 : Cond.methodLink (zOwnL.getD 9 "") 299 (zY 62) ∈ lw_tbl ∧ 0 < 62 ∧ 62 < 335 := ⟨zch2 (List.mem_of_getElem? (i := 114) rfl), by decide, by decide⟩
set_option maxRecDepth 100000 in
theorem zmw_154 : Cond.methodLink (zOwnL.getD 9 "") 303 (zY 189) ∈ lw_tbl ∧ 0 < 189 ∧ 189 < 335 := ⟨zch5 (List.mem_of_getElem? (i := 89) rfl), by decide, by decide⟩
set_option maxRecDepth 100000 in
theorem zmw_155 : Cond.methodLink (zOwnL.getD 9 "") 307 (zY 195) ∈ lw_tbl ∧ 0 < 195 ∧ 195 < 335 := ⟨zch5 (List.mem_of_getElem? (i := 115) rfl), by decide, by decide⟩
set_option maxRecDepth 100000 in
theorem zmw_156 : Cond.methodLink (zOwnL.getD 9 "") 310 (zY 44) ∈ lw_tbl ∧ 0 < 44 ∧ 44 < 335 := ⟨zch2 (List.mem_of_getElem? (i := 35) rfl), by decide, by decide⟩
set_option maxRecDepth 100000 in
theorem zmw_157 : Cond.methodLink (zOwnL.getD 9 "") 313 (zY 45) ∈ lw_tbl ∧ 0 < 45 ∧ 45 < 335 := ⟨zch2 (List.mem_of_getElem? (i := 50) rfl), by decide, by decide⟩
set_option maxRecDepth 100000 in
theorem zmw_158 : Cond.methodLink (zOwnL.getD 9 "") 317 (zY 48) ∈ lw_tbl ∧ 0 < 48 ∧ 48 < 335 := ⟨zch2 (List.mem_of_getElem? (i := 51) rfl), by decide, by decide⟩
set_option maxRecDepth 100000 in
theorem zmw_159 : Cond.methodLink (zOwnL.getD 9 "") 324 (zY 200) ∈ lw_tbl ∧ 0 < 200 ∧ 200 < 335 := ⟨zch5 (List.mem_of_getElem? (i := 133) rfl), by decide, by decide⟩
set_option maxRecDepth 100000 in
theorem zmw_160 : Cond.methodLink (zOwnL.getD 9 "") 327 (zY 201) ∈ lw_tbl ∧ 0 < 201 ∧ 201 < 335 := ⟨zch5 (List.mem_of_getElem? (i := 137) rfl), by decide, by decide⟩
set_option maxRecDepth 100000 in
theorem zmw_161 : Cond.methodLink (zOwnL.getD 9 "") 339 (zY 206) ∈ lw_tbl ∧ 0 < 206 ∧ 206 < 335 := ⟨zch5 (List.mem_of_getElem? (i := 156) rfl), by decide, by decide⟩
set_option maxRecDepth 100000 in
theorem zmw_162 : Cond.methodLink (zOwnL.getD 9 "") 343 (zY 210) ∈ lw_tbl ∧ 0 < 210 ∧ 210 < 335 := ⟨zch5 (List.mem_of_getElem? (i := 171) rfl), by decide, by decide⟩
set_option maxRecDepth 100000 in
theorem zmw_163 : Cond.methodLink (zOwnL.getD 9 "") 346 (zY 213) ∈ lw_tbl ∧ 0 < 213 ∧ 213 < 335 := ⟨zch5 (List.mem_of_getElem? (i := 182) rfl), by decide, by decide⟩
set_option maxRecDepth 100000 in
theorem zmw_164 : Cond.methodLink (zOwnL.getD 9 "") 349 (zY 50) ∈ lw_tbl ∧ 0 < 50 ∧ 50 < 335 := ⟨zch2 (List.mem_of_getElem? (i := 62) rfl), by decide, by decide⟩
set_option maxRecDepth 100000 in
theorem zmw_165 : Cond.methodLink (zOwnL.getD 9 "") 355 (zY 54) ∈ lw_tbl ∧ 0 < 54 ∧ 54 < 335 := ⟨zch2 (List.mem_of_getElem? (i := 78) rfl), by decide, by decide⟩
set_option maxRecDepth 100000 in
theorem zmw_166 : Cond.methodLink (zOwnL.getD 9 "") 359 (zY 63) ∈ lw_tbl ∧ 0 < 63 ∧ 63 < 335 := ⟨zch2 (List.mem_of_getElem? (i := 185) rfl), by decide, by decide⟩
set_option maxRecDepth 100000 in
theorem zmw_167 : Cond.methodLink (zOwnL.getD 9 "") 379 (zY 167) ∈ lw_tbl ∧ 0 < 167 ∧ 167 < 335 := ⟨zch5 (List.mem_of_getElem? (i := 2) rfl), by decide, by decide⟩
set_option maxRecDepth 100000 in
theorem zmw_168 : Cond.methodLink (zOwnL.getD 10 "") 144 (zY 216) ∈ lw_tbl ∧ 0 < 216 ∧ 216 < 335 := ⟨zch5 (List.mem_of_getElem? (i := 196) rfl), by decide, by decide⟩
set_option maxRecDepth 100000 in
theorem zmw_169 : Cond.methodLink (zOwnL.getD 10 "") 147 (zY 217) ∈ lw_tbl ∧ 0 < 217 ∧ 217 < 335 := ⟨zch5 (List.mem_of_getElem? (i := 200) rfl), by decide, by decide⟩
set_option maxRecDepth 100000 in
theorem zmw_170 : Cond.methodLink (zOwnL.getD 10 "") 165 (zY 226) ∈ lw_tbl ∧ 0 < 226 ∧ 226 < 335 := ⟨zch6 (List.mem_of_getElem? (i := 217) rfl), by decide, by decide⟩
set_option maxRecDepth 100000 in
theorem zmw_171 : Cond.methodLink (zOwnL.getD 10 "") 169 (zY 228) ∈ lw_tbl ∧ 0 < 228 ∧ 228 < 335 := ⟨zch6 (List.mem_of_getElem? (i := 225) rfl), by decide, by decide⟩
set_option maxRecDepth 100000 in
theorem zmw_172 : Cond.methodLink (zOwnL.getD 10 "") 182 (zY 224) ∈ lw_tbl ∧ 0 < 224 ∧ 224 < 335 := ⟨zch6 (List.mem_of_getElem? (i := 209) rfl), by decide, by decide⟩
set_option maxRecDepth 100000 in
theorem zmw_173 : Cond.methodLink (zOwnL.getD 10 "") 186 (zY 237) ∈ lw_tbl ∧ 0 < 237 ∧ 237 < 335 := ⟨zch7 (List.mem_of_getElem? (i := 31) rfl), by decide, by decide⟩
set_option maxRecDepth 100000 in
theorem zmw_174 : Cond.methodLink (zOwnL.getD 10 "") 189 (zY 232) ∈ lw_tbl ∧ 0 < 232 ∧ 232 < 335 := ⟨zch7 (List.mem_of_getElem? (i := 11) rfl), by decide, by decide⟩
set_option maxRecDepth 100000 in
theorem zmw_175 : Cond.methodLink (zOwnL.getD 10 "") 229 (zY 218) ∈ lw_tbl ∧ 0 < 218 ∧ 218 < 335 := ⟨zch5 (List.mem_of_getElem? (i := 204) rfl), by decide, by decide⟩
set_option maxRecDepth 100000 in
theorem zmw_176 : Cond.methodLink (zOwnL.getD 10 "") 250 (zY 230) ∈ lw_tbl ∧ 0 < 230 ∧ 230 < 335 := ⟨zch6 (List.mem_of_getElem? (i := 232) rfl), by decide, by decide⟩
set_option maxRecDepth 100000 in
theorem zmw_177 : Cond.methodLink (zOwnL.getD 10 "") 254 (zY 236) ∈ lw_tbl ∧ 0 < 236 ∧ 236 < 335 := ⟨zch7 (List.mem_of_getElem? (i := 27) rfl), by decide, by decide⟩
set_option maxRecDepth 100000 in
theorem zmw_178 : Cond.methodLink (zOwnL.getD 10 "") 275 (zY 222) ∈ lw_tbl ∧ 0 < 222 ∧ 222 < 335 := ⟨zch6 (List.mem_of_getElem? (i := 201) rfl), by decide, by decide⟩
set_option maxRecDepth 100000 in
theorem zmw_179 : Cond.methodLink (zOwnL.getD 10 "") 279 (zY 223) ∈ lw_tbl ∧ 0 < 223 ∧ 223 < 335 := ⟨zch6 (List.mem_of_getElem? (i := 205) rfl), by decide, by decide⟩
set_option maxRecDepth 100000 in
theorem zmw_180 : Cond.methodLink (zOwnL.getD 10 "") 282 (zY 225) ∈ lw_tbl ∧ 0 < 225 ∧ 225 < 335 := ⟨zch6 (List.mem_of_getElem? (i := 213) rfl), by decide, by decide⟩
set_option maxRecDepth 100000 in
theorem zmw_181 : Cond.methodLink (zOwnL.getD 10 "") 285 (zY 227) ∈ lw_tbl ∧ 0 < 227 ∧ 227 < 335 := ⟨zch6 (List.mem_of_getElem? (i := 221) rfl), by decide, by decide⟩
set_option maxRecDepth 100000 in
theorem zmw_182 : Cond.methodLink (zOwnL.getD 10 "") 288 (zY 229) ∈ lw_tbl ∧ 0 < 229 ∧ 229 < 335 := ⟨zch6 (List.mem_of_getElem? (i := 228) rfl), by decide, by decide⟩
set_option maxRecDepth 100000 in
theorem zmw_183 : Cond.methodLink (zOwnL.getD 10 "") 291 (zY 231) ∈ lw_tbl ∧ 0 < 231 ∧ 231 < 335 := ⟨zch7 (List.mem_of_getElem? (i := 1) rfl), by decide, by decide⟩
set_option maxRecDepth 100000 in
theorem zmw_184 : Cond.methodLink (zOwnL.getD 10 "") 294 (zY 233) ∈ lw_tbl ∧ 0 < 233 ∧ 233 < 335 := ⟨zch7 (List.mem_of_getElem? (i := 15) rfl), by decide, by decide⟩
set_option maxRecDepth 100000 in
theorem zmw_185 : Cond.methodLink (zOwnL.getD 10 "") 297 (zY 234) ∈ lw_tbl ∧ 0 < 234 ∧ 234 < 335 := ⟨zch7 (List.mem_of_getElem? (i := 19) rfl), by decide, by decide⟩
set_option maxRecDepth 100000 in
theorem zmw_186 : Cond.methodLink (zOwnL.getD 10 "") 300 (zY 235) ∈ lw_tbl ∧ 0 < 235 ∧ 235 < 335 := ⟨zch7 (List.mem_of_getElem? (i := 23) rfl), by decide, by decide⟩
set_option maxRecDepth 100000 in
theorem zmw_187 : Cond.methodLink (zOwnL.getD 10 "") 303 (zY 238) ∈ lw_tbl ∧ 0 < 238 ∧ 238 < 335 := ⟨zch7 (List.mem_of_getElem? (i := 34) rfl), by decide, by decide⟩
set_option maxRecDepth 100000 in
theorem zmw_188 : Cond.methodLink (zOwnL.getD 10 "") 306 (zY 239) ∈ lw_tbl ∧ 0 < 239 ∧ 239 < 335 := ⟨zch7 (List.mem_of_getElem? (i := 38) rfl), by decide, by decide⟩
set_option maxRecDepth 100000 in
theorem zmw_189 : Cond.methodLink (zOwnL.getD 10 "") 309 (zY 240) ∈ lw_tbl ∧ 0 < 240 ∧ 240 < 335 := ⟨zch7 (List.mem_of_getElem? (i := 42) rfl), by decide, by decide⟩
set_option maxRecDepth 100000 in
theorem zmw_190 : Cond.methodLink (zOwnL.getD 10 "") 316 (zY 243) ∈ lw_tbl ∧ 0 < 243 ∧ 243 < 335 := ⟨zch7 (List.mem_of_getElem? (i := 54) rfl), by decide, by decide⟩
set_option maxRecDepth 100000 in
theorem zmw_191 : Cond.methodLink (zOwnL.getD 10 "") 319 (zY 246) ∈ lw_tbl ∧ 0 < 246 ∧ 246 < 335 := ⟨zch7 (List.mem_of_getElem? (i := 66) rfl), by decide, by decide⟩
set_option maxRecDepth 100000 in
theorem zmw_192 : Cond.methodLink (zOwnL.getD 10 "") 322 (zY 244) ∈ lw_tbl ∧ 0 < 244 ∧ 244 < 335 := ⟨zch7 (List.mem_of_getElem? (i := 58) rfl), by decide, by decide⟩
set_option maxRecDepth 100000 in
theorem zmw_193 : Cond.methodLink (zOwnL.getD 10 "") 325 (zY 245) ∈ lw_tbl ∧ 0 < 245 ∧ 245 < 335 := ⟨zch7 (List.mem_of_getElem? (i := 62) rfl), by decide, by decide⟩
set_option maxRecDepth 100000 in
theorem zmw_194 : Cond.methodLink (zOwnL.getD 10 "") 328 (zY 242) ∈ lw_tbl ∧ 0 < 242 ∧ 242 < 335 := ⟨zch7 (List.mem_of_getElem? (i := 50) rfl), by decide, by decide⟩
set_option maxRecDepth 100000 in
theorem zmw_195 : Cond.methodLink (zOwnL.getD 10 "") 333 (zY 249) ∈ lw_tbl ∧ 0 < 249 ∧ 249 < 335 := ⟨zch7 (List.mem_of_getElem? (i := 81) rfl), by decide, by decide⟩
set_option maxRecDepth 100000 in
theorem zmw_196 : Cond.methodLink (zOwnL.getD 10 "") 346 (zY 247) ∈ lw_tbl ∧ 0 < 247 ∧ 247 < 335 := ⟨zch7 (List.mem_of_getElem? (i := 71) rfl), by decide, by decide⟩
set_option maxRecDepth 100000 in
theorem zmw_197 : Cond.methodLink (zOwnL.getD 10 "") 351 (zY 248) ∈ lw_tbl ∧ 0 < 248 ∧ 248 < 335 := ⟨zch7 (List.mem_of_getElem? (i := 76) rfl), by decide, by decide⟩
set_option maxRecDepth 100000 in
theorem zmw_198 : Cond.methodLink (zOwnL.getD 10 "") 354 (zY 264) ∈ lw_tbl ∧ 0 < 264 ∧ 264 < 335 := ⟨zch7 (List.mem_of_getElem? (i := 144) rfl), by decide, by decide⟩
set_option maxRecDepth 100000 in
theorem zmw_199 : Cond.methodLink (zOwnL.getD 10 "") 358 (zY 263) ∈ lw_tbl ∧ 0 < 263 ∧ 263 < 335 := ⟨zch7 (List.mem_of_getElem? (i := 140) rfl), by decide, by decide⟩
set_option maxRecDepth 100000 in
theorem zmw_200 : Cond.methodLink (zOwnL.getD 10 "") 361 (zY 251) ∈ lw_tbl ∧ 0 < 251 ∧ 251 < 335 := ⟨zch7 (List.mem_of_getElem? (i := 93) rfl), by decide, by decide⟩
set_option maxRecDepth 100000 in
theorem zmw_201 : Cond.methodLink (zOwnL.getD 10 "") 364 (zY 254) ∈ lw_tbl ∧ 0 < 254 ∧ 254 < 335 := ⟨zch7 (List.mem_of_getElem? (i := 105) rfl), by decide, by decide⟩
set_option maxRecDepth 100000 in
theorem zmw_202 : Cond.methodLink (zOwnL.getD 10 "") 368 (zY 256) ∈ lw_tbl ∧ 0 < 256 ∧ 256 < 335 := ⟨zch7 (List.mem_of_getElem? (i := 112) rfl), by decide, by decide⟩
set_option maxRecDepth 100000 in
theorem zmw_203 : Cond.methodLink (zOwnL.getD 10 "") 372 (zY 258) ∈ lw_tbl ∧ 0 < 258 ∧ 258 < 335 := ⟨zch7 (List.mem_of_getElem? (i := 120) rfl), by decide, by decide⟩
set_option maxRecDepth 100000 in
theorem zmw_204 : Cond.methodLink (zOwnL.getD 10 "") 375 (zY 262) ∈ lw_tbl ∧ 0 < 262 ∧ 262 < 335 := ⟨zch7 (List.mem_of_getElem? (i := 136) rfl), by decide, by decide⟩
set_option maxRecDepth 100000 in
theorem zmw_205 : Cond.methodLink (zOwnL.getD 10 "") 378 (zY 269) ∈ lw_tbl ∧ 0 < 269 ∧ 269 < 335 := ⟨zch7 (List.mem_of_getElem? (i := 163) rfl), by decide, by decide⟩
set_option maxRecDepth 100000 in
theorem zmw_206 : Cond.methodLink (zOwnL.getD 10 "") 381 (zY 270) ∈ lw_tbl ∧ 0 < 270 ∧ 270 < 335 := ⟨zch7 (List.mem_of_getElem? (i := 167) rfl), by decide, by decide⟩
set_option maxRecDepth 100000 in
theorem zmw_207 : Cond.methodLink (zOwnL.getD 10 "") 384 (zY 273) ∈ lw_tbl ∧ 0 < 273 ∧ 273 < 335 := ⟨zch7 (List.mem_of_getElem? (i := 179) rfl), by decide, by decide⟩
set_option maxRecDepth 100000 in
theorem zmw_208 : Cond.methodLink (zOwnL.getD 10 "") 390 (zY 268) ∈ lw_tbl ∧ 0 < 268 ∧ 268 < 335 := ⟨zch7 (List.mem_of_getElem? (i := 159) rfl), by decide, by decide⟩
set_option maxRecDepth 100000 in
theorem zmw_209 : Cond.methodLink (zOwnL.getD 10 "") 393 (zY 271) ∈ lw_tbl ∧ 0 < 271 ∧ 271 < 335 := ⟨zch7 (List.mem_of_getElem? (i := 171) rfl), by decide, by decide⟩
set_option maxRecDepth 100000 in
theorem zmw_210 : Cond.methodLink (zOwnL.getD 10 "") 396 (zY 272) ∈ lw_tbl ∧ 0 < 272 ∧ 272 < 335 := ⟨zch7 (List.mem_of_getElem? (i := 175) rfl), by decide, by decide⟩
set_option maxRecDepth 100000 in
theorem zmw_211 : Cond.methodLink (zOwnL.getD 10 "") 399 (zY 274) ∈ lw_tbl ∧ 0 < 274 ∧ 274 < 335 := ⟨zch7 (List.mem_of_getElem? (i := 183) rfl), by decide, by decide⟩
set_option maxRecDepth 100000 in
theorem zmw_212 : Cond.methodLink (zOwnL.getD 10 "") 402 (zY 275) ∈ lw_tbl ∧ 0 < 275 ∧ 275 < 335 := ⟨zch7 (List.mem_of_getElem? (i := 188) rfl), by decide, by decide⟩
set_option maxRecDepth 100000 in
theorem zmw_213 : Cond.methodLink (zOwnL.getD 10 "") 405 (zY 266) ∈ lw_tbl ∧ 0 < 266 ∧ 266 < 335 := ⟨zch7 (List.mem_of_getElem? (i := 151) rfl), by decide, by decide⟩
set_option maxRecDepth 100000 in
theorem zmw_214 : Cond.methodLink (zOwnL.getD 10 "") 408 (zY 267) ∈ lw_tbl ∧ 0 < 267 ∧ 267 < 335 := ⟨zch7 (List.mem_of_getElem? (i := 155) rfl), by decide, by decide⟩
set_option maxRecDepth 100000 in
theorem zmw_215 : Cond.methodLink (zOwnL.getD 10 "") 412 (zY 281) ∈ lw_tbl ∧ 0 < 281 ∧ 281 < 335 := ⟨zch7 (List.mem_of_getElem? (i := 212) rfl), by decide, by decide⟩
set_option maxRecDepth 100000 in
theorem zmw_216 : Cond.methodLink (zOwnL.getD 10 "") 421 (zY 287) ∈ lw_tbl ∧ 0 < 287 ∧ 287 < 335 := ⟨zch7 (List.mem_of_getElem? (i := 237) rfl), by decide, by decide⟩
set_option maxRecDepth 100000 in
theorem zmw_217 : Cond.methodLink (zOwnL.getD 10 "") 426 (zY 286) ∈ lw_tbl ∧ 0 < 286 ∧ 286 < 335 := ⟨zch7 (List.mem_of_getElem? (i := 232) rfl), by decide, by decide⟩
set_option maxRecDepth 100000 in
theorem zmw_218 : Cond.methodLink (zOwnL.getD 10 "") 429 (zY 293) ∈ lw_tbl ∧ 0 < 293 ∧ 293 < 335 := ⟨zch8 (List.mem_of_getElem? (i := 19) rfl), by decide, by decide⟩
set_option maxRecDepth 100000 in
theorem zmw_219 : Cond.methodLink (zOwnL.getD 10 "") 432 (zY 290) ∈ lw_tbl ∧ 0 < 290 ∧ 290 < 335 := ⟨zch8 (List.mem_of_getElem? (i := 9) rfl), by decide, by decide⟩
set_option maxRecDepth 100000 in
theorem zmw_220 : Cond.methodLink (zOwnL.getD 10 "") 435 (zY 291) ∈ lw_tbl ∧ 0 < 291 ∧ 291 < 335 := ⟨zch8 (List.mem_of_getElem? (i := 12) rfl), by decide, by decide⟩
set_option maxRecDepth 100000 in
theorem zmw_221 : Cond.methodLink (zOwnL.getD 10 "") 438 (zY 292) ∈ lw_tbl ∧ 0 < 292 ∧ 292 < 335 := ⟨zch8 (List.mem_of_getElem? (i := 15) rfl), by decide, by decide⟩
set_option maxRecDepth 100000 in
theorem zmw_222 : Cond.methodLink (zOwnL.getD 10 "") 441 (zY 300) ∈ lw_tbl ∧ 0 < 300 ∧ 300 < 335 := ⟨zch8 (List.mem_of_getElem? (i := 47) rfl), by decide, by decide⟩
set_option maxRecDepth 100000 in
theorem zmw_223 : Cond.methodLink (zOwnL.getD 10 "") 444 (zY 298) ∈ lw_tbl ∧ 0 < 298 ∧ 298 < 335 := ⟨zch8 (List.mem_of_getElem? (i := 40) rfl), by decide, by decide⟩
set_option maxRecDepth 100000 in
theorem zmw_224 : Cond.methodLink (zOwnL.getD 10 "") 448 (zY 297) ∈ lw_tbl ∧ 0 < 297 ∧ 297 < 335 := ⟨zch8 (List.mem_of_getElem? (i := 35) rfl), by decide, by decide⟩
set_option maxRecDepth 100000 in
theorem zmw_225 : Cond.methodLink (zOwnL.getD 10 "") 453 (zY 299) ∈ lw_tbl ∧ 0 < 299 ∧ 299 < 335 := ⟨zch8 (List.mem_of_getElem? (i := 43) rfl), by decide, by decide⟩
set_option maxRecDepth 100000 in
theorem zmw_226 : Cond.methodLink (zOwnL.getD 10 "") 457 (zY 301) ∈ lw_tbl ∧ 0 < 301 ∧ 301 < 335 := ⟨zch8 (List.mem_of_getElem? (i := 51) rfl), by decide, by decide⟩
set_option maxRecDepth 100000 in
theorem zmw_227 : Cond.methodLink (zOwnL.getD 10 "") 462 (zY 305) ∈ lw_tbl ∧ 0 < 305 ∧ 305 < 335 := ⟨zch8 (List.mem_of_getElem? (i := 67) rfl), by decide, by decide⟩
set_option maxRecDepth 100000 in
theorem zmw_228 : Cond.methodLink (zOwnL.getD 10 "") 471 (zY 309) ∈ lw_tbl ∧ 0 < 309 ∧ 309 < 335 := ⟨zch8 (List.mem_of_getElem? (i := 83) rfl), by decide, by decide⟩
set_option maxRecDepth 100000 in
theorem zmw_229 : Cond.methodLink (zOwnL.getD 10 "") 474 (zY 308) ∈ lw_tbl ∧ 0 < 308 ∧ 308 < 335 := ⟨zch8 (List.mem_of_getElem? (i := 79) rfl), by decide, by decide⟩
set_option maxRecDepth 100000 in
theorem zmw_230 : Cond.methodLink (zOwnL.getD 10 "") 482 (zY 313) ∈ lw_tbl ∧ 0 < 313 ∧ 313 < 335 := ⟨zch8 (List.mem_of_getElem? (i := 100) rfl), by decide, by decide⟩
set_option maxRecDepth 100000 in
theorem zmw_231 : Cond.methodLink (zOwnL.getD 10 "") 485 (zY 314) ∈ lw_tbl ∧ 0 < 314 ∧ 314 < 335 := ⟨zch8 (List.mem_of_getElem? (i := 104) rfl), by decide, by decide⟩
set_option maxRecDepth 100000 in
theorem zmw_232 : Cond.methodLink (zOwnL.getD 10 "") 488 (zY 317) ∈ lw_tbl ∧ 0 < 317 ∧ 317 < 335 := ⟨zch8 (List.mem_of_getElem? (i := 117) rfl), by decide, by decide⟩
set_option maxRecDepth 100000 in
theorem zmw_233 : Cond.methodLink (zOwnL.getD 10 "") 491 (zY 319) ∈ lw_tbl ∧ 0 < 319 ∧ 319 < 335 := ⟨zch8 (List.mem_of_getElem? (i := 125) rfl), by decide, by decide⟩
set_option maxRecDepth 100000 in
theorem zmw_234 : Cond.methodLink (zOwnL.getD 10 "") 499 (zY 322) ∈ lw_tbl ∧ 0 < 322 ∧ 322 < 335 := ⟨zch8 (List.mem_of_getElem? (i := 137) rfl), by decide, by decide⟩
set_option maxRecDepth 100000 in
theorem zmw_235 : Cond.methodLink (zOwnL.getD 10 "") 502 (zY 326) ∈ lw_tbl ∧ 0 < 326 ∧ 326 < 335 := ⟨zch8 (List.mem_of_getElem? (i := 153) rfl), by decide, by decide⟩
set_option maxRecDepth 100000 in
theorem zmw_236 : Cond.methodLink (zOwnL.getD 10 "") 506 (zY 325) ∈ lw_tbl ∧ 0 < 325 ∧ 325 < 335 := ⟨zch8 (List.mem_of_getElem? (i := 149) rfl), by decide, by decide⟩
set_option maxRecDepth 100000 in
theorem zmw_237 : Cond.methodLink (zOwnL.getD 10 "") 508 (zY 330) ∈ lw_tbl ∧ 0 < 330 ∧ 330 < 335 := ⟨zch8 (List.mem_of_getElem? (i := 169) rfl), by decide, by decide⟩
set_option maxRecDepth 100000 in
theorem zmw_238 : Cond.methodLink (zOwnL.getD 11 "") 7 (zY 59) ∈ lw_tbl ∧ 0 < 59 ∧ 59 < 335 := ⟨zch2 (List.mem_of_getElem? (i := 101) rfl), by decide, by decide⟩
set_option maxRecDepth 100000 in
theorem zmw_239 : Cond.methodLink (zOwnL.getD 11 "") 15 (zY 90) ∈ lw_tbl ∧ 0 < 90 ∧ 90 < 335 := ⟨zch3 (List.mem_of_getElem? (i := 114) rfl), by decide, by decide⟩
set_option maxRecDepth 100000 in
theorem zmw_240 : Cond.methodLink (zOwnL.getD 11 "") 18 (zY 103) ∈ lw_tbl ∧ 0 < 103 ∧ 103 < 335 := ⟨zch3 (List.mem_of_getElem? (i := 181) rfl), by decide, by decide⟩
set_option maxRecDepth 100000 in
theorem zmw_241 : Cond.methodLink (zOwnL.getD 11 "") 21 (zY 108) ∈ lw_tbl ∧ 0 < 108 ∧ 108 < 335 := ⟨zch3 (List.mem_of_getElem? (i := 209) rfl), by decide, by decide⟩
set_option maxRecDepth 100000 in
theorem zmw_242 : Cond.methodLink (zOwnL.getD 11 "") 24 (zY 112) ∈ lw_tbl ∧ 0 < 112 ∧ 112 < 335 := ⟨zch3 (List.mem_of_getElem? (i := 230) rfl), by decide, by decide⟩
set_option maxRecDepth 100000 in
theorem zmw_243 : Cond.methodLink (zOwnL.getD 11 "") 27 (zY 116) ∈ lw_tbl ∧ 0 < 116 ∧ 116 < 335 := ⟨zch4 (List.mem_of_getElem? (i := 7) rfl), by decide, by decide⟩
set_option maxRecDepth 100000 in
theorem zmw_244 : Cond.methodLink (zOwnL.getD 11 "") 33 (zY 119) ∈ lw_tbl ∧ 0 < 119 ∧ 119 < 335 := ⟨zch4 (List.mem_of_getElem? (i := 34) rfl), by decide, by decide⟩
set_option maxRecDepth 100000 in
theorem zmw_245 : Cond.methodLink (zOwnL.getD 11 "") 36 (zY 121) ∈ lw_tbl ∧ 0 < 121 ∧ 121 < 335 := ⟨zch4 (List.mem_of_getElem? (i := 41) rfl), by decide, by decide⟩
set_option maxRecDepth 100000 in
theorem zmw_246 : Cond.methodLink (zOwnL.getD 11 "") 39 (zY 123) ∈ lw_tbl ∧ 0 < 123 ∧ 123 < 335 := ⟨zch4 (List.mem_of_getElem? (i := 48) rfl), by decide, by decide⟩
set_option maxRecDepth 100000 in
theorem zmw_247 : Cond.methodLink (zOwnL.getD 11 "") 43 (zY 125) ∈ lw_tbl ∧ 0 < 125 ∧ 125 < 335 := ⟨zch4 (List.mem_of_getElem? (i := 56) rfl), by decide, by decide⟩
set_option maxRecDepth 100000 in
theorem zmw_248 : Cond.methodLink (zOwnL.getD 11 "") 47 (zY 127) ∈ lw_tbl ∧ 0 < 127 ∧ 127 < 335 := ⟨zch4 (List.mem_of_getElem? (i := 64) rfl), by decide, by decide⟩
set_option maxRecDepth 100000 in
theorem zmw_249 : Cond.methodLink (zOwnL.getD 11 "") 50 (zY 129) ∈ lw_tbl ∧ 0 < 129 ∧ 129 < 335 := ⟨zch4 (List.mem_of_getElem? (i := 71) rfl), by decide, by decide⟩
set_option maxRecDepth 100000 in
theorem zmw_250 : Cond.methodLink (zOwnL.getD 11 "") 53 (zY 131) ∈ lw_tbl ∧ 0 < 131 ∧ 131 < 335 := ⟨zch4 (List.mem_of_getElem? (i := 78) rfl), by decide, by decide⟩
set_option maxRecDepth 100000 in
theorem zmw_251 : Cond.methodLink (zOwnL.getD 11 "") 56 (zY 133) ∈ lw_tbl ∧ 0 < 133 ∧ 133 < 335 := ⟨zch4 (List.mem_of_getElem? (i := 85) rfl), by decide, by decide⟩
set_option maxRecDepth 100000 in
theorem zmw_252 : Cond.methodLink (zOwnL.getD 11 "") 59 (zY 135) ∈ lw_tbl ∧ 0 < 135 ∧ 135 < 335 := ⟨zch4 (List.mem_of_getElem? (i := 92) rfl), by decide, by decide⟩
set_option maxRecDepth 100000 in
theorem zmw_253 : Cond.methodLink (zOwnL.getD 11 "") 62 (zY 137) ∈ lw_tbl ∧ 0 < 137 ∧ 137 < 335 := ⟨zch4 (List.mem_of_getElem? (i := 99) rfl), by decide, by decide⟩
set_option maxRecDepth 100000 in
theorem zmw_254 : Cond.methodLink (zOwnL.getD 11 "") 65 (zY 139) ∈ lw_tbl ∧ 0 < 139 ∧ 139 < 335 := ⟨zch4 (List.mem_of_getElem? (i := 107) rfl), by decide, by decide⟩
set_option maxRecDepth 100000 in
theorem zmw_255 : Cond.methodLink (zOwnL.getD 11 "") 70 (zY 153) ∈ lw_tbl ∧ 0 < 153 ∧ 153 < 335 := ⟨zch4 (List.mem_of_getElem? (i := 186) rfl), by decide, by decide⟩
set_option maxRecDepth 100000 in
theorem zmw_256 : Cond.methodLink (zOwnL.getD 11 "") 73 (zY 156) ∈ lw_tbl ∧ 0 < 156 ∧ 156 < 335 := ⟨zch4 (List.mem_of_getElem? (i := 197) rfl), by decide, by decide⟩
set_option maxRecDepth 100000 in
theorem zmw_257 : Cond.methodLink (zOwnL.getD 11 "") 77 (zY 159) ∈ lw_tbl ∧ 0 < 159 ∧ 159 < 335 := ⟨zch4 (List.mem_of_getElem? (i := 209) rfl), by decide, by decide⟩
set_option maxRecDepth 100000 in
theorem zmw_258 : Cond.methodLink (zOwnL.getD 11 "") 80 (zY 161) ∈ lw_tbl ∧ 0 < 161 ∧ 161 < 335 := ⟨zch4 (List.mem_of_getElem? (i := 217) rfl), by decide, by decide⟩
set_option maxRecDepth 100000 in
theorem zmw_259 : Cond.methodLink (zOwnL.getD 11 "") 84 (zY 163) ∈ lw_tbl ∧ 0 < 163 ∧ 163 < 335 := ⟨zch4 (List.mem_of_getElem? (i := 228) rfl), by decide, by decide⟩
set_option maxRecDepth 100000 in
theorem zmw_260 : Cond.methodLink (zOwnL.getD 11 "") 88 (zY 169) ∈ lw_tbl ∧ 0 < 169 ∧ 169 < 335 := ⟨zch5 (List.mem_of_getElem? (i := 8) rfl), by decide, by decide⟩
set_option maxRecDepth 100000 in
theorem zmw_261 : Cond.methodLink (zOwnL.getD 11 "") 91 (zY 171) ∈ lw_tbl ∧ 0 < 171 ∧ 171 < 335 := ⟨zch5 (List.mem_of_getElem? (i := 16) rfl), by decide, by decide⟩
set_option maxRecDepth 100000 in
theorem zmw_262 : Cond.methodLink (zOwnL.getD 11 "") 94 (zY 173) ∈ lw_tbl ∧ 0 < 173 ∧ 173 < 335 := ⟨zch5 (List.mem_of_getElem? (i := 23) rfl), by decide, by decide⟩
set_option maxRecDepth 100000 in
theorem zmw_263 : Cond.methodLink (zOwnL.getD 11 "") 97 (zY 176) ∈ lw_tbl ∧ 0 < 176 ∧ 176 < 335 := ⟨zch5 (List.mem_of_getElem? (i := 35) rfl), by decide, by decide⟩
set_option maxRecDepth 100000 in
theorem zmw_264 : Cond.methodLink (zOwnL.getD 11 "") 100 (zY 178) ∈ lw_tbl ∧ 0 < 178 ∧ 178 < 335 := ⟨zch5 (List.mem_of_getElem? (i := 43) rfl), by decide, by decide⟩
set_option maxRecDepth 100000 in
theorem zmw_265 : Cond.methodLink (zOwnL.getD 11 "") 103 (zY 183) ∈ lw_tbl ∧ 0 < 183 ∧ 183 < 335 := ⟨zch5 (List.mem_of_getElem? (i := 66) rfl), by decide, by decide⟩
set_option maxRecDepth 100000 in
theorem zmw_266 : Cond.methodLink (zOwnL.getD 11 "") 106 (zY 186) ∈ lw_tbl ∧ 0 < 186 ∧ 186 < 335 := ⟨zch5 (List.mem_of_getElem? (i := 78) rfl), by decide, by decide⟩
set_option maxRecDepth 100000 in
theorem zmw_267 : Cond.methodLink (zOwnL.getD 11 "") 109 (zY 188) ∈ lw_tbl ∧ 0 < 188 ∧ 188 < 335 := ⟨zch5 (List.mem_of_getElem? (i := 85) rfl), by decide, by decide⟩
set_option maxRecDepth 100000 in
theorem zmw_268 : Cond.methodLink (zOwnL.getD 11 "") 112 (zY 194) ∈ lw_tbl ∧ 0 < 194 ∧ 194 < 335 := ⟨zch5 (List.mem_of_getElem? (i := 111) rfl), by decide, by decide⟩
set_option maxRecDepth 100000 in
theorem zmw_269 : Cond.methodLink (zOwnL.getD 11 "") 115 (zY 197) ∈ lw_tbl ∧ 0 < 197 ∧ 197 < 335 := ⟨zch5 (List.mem_of_getElem? (i := 122) rfl), by decide, by decide⟩
set_option maxRecDepth 100000 in
theorem zmw_270 : Cond.methodLink (zOwnL.getD 11 "") 119 (zY 199) ∈ lw_tbl ∧ 0 < 199 ∧ 199 < 335 := ⟨zch5 (List.mem_of_getElem? (i := 129) rfl), by decide, by decide⟩
set_option maxRecDepth 100000 in
theorem zmw_271 : Cond.methodLink (zOwnL.getD 11 "") 122 (zY 203) ∈ lw_tbl ∧ 0 < 203 ∧ 203 < 335 := ⟨zch5 (List.mem_of_getElem? (i := 144) rfl), by decide, by decide⟩
set_option maxRecDepth 100000 in
theorem zmw_272 : Cond.methodLink (zOwnL.getD 11 "") 125 (zY 205) ∈ lw_tbl ∧ 0 < 205 ∧ 205 < 335 := ⟨zch5 (List.mem_of_getElem? (i := 152) rfl), by decide, by decide⟩
set_option maxRecDepth 100000 in
theorem zmw_273 : Cond.methodLink (zOwnL.getD 11 "") 128 (zY 209) ∈ lw_tbl ∧ 0 < 209 ∧ 209 < 335 := ⟨zch5 (List.mem_of_getElem? (i := 167) rfl), by decide, by decide⟩
set_option maxRecDepth 100000 in
theorem zmw_274 : Cond.methodLink (zOwnL.getD 11 "") 131 (zY 212) ∈ lw_tbl ∧ 0 < 212 ∧ 212 < 335 := ⟨zch5 (List.mem_of_getElem? (i := 178) rfl), by decide, by decide⟩
set_option maxRecDepth 100000 in
theorem zmw_275 : Cond.methodLink (zOwnL.getD 11 "") 134 (zY 1) ∈ lw_tbl ∧ 0 < 1 ∧ 1 < 335 := ⟨zch0 (List.mem_of_getElem? (i := 28) rfl), by decide, by decide⟩
set_option maxRecDepth 100000 in
theorem zmw_276 : Cond.methodLink (zOwnL.getD 11 "") 137 (zY 215) ∈ lw_tbl ∧ 0 < 215 ∧ 215 < 335 := ⟨zch5 (List.mem_of_getElem? (i := 192) rfl), by decide, by decide⟩
set_option maxRecDepth 100000 in
theorem zmw_277 : Cond.methodLink (zOwnL.getD 11 "") 138 (zY 14) ∈ lw_tbl ∧ 0 < 14 ∧ 14 < 335 := ⟨zch1 (List.mem_of_getElem? (i := 141) rfl), by decide, by decide⟩
set_option maxRecDepth 100000 in
theorem zmw_278 : Cond.methodLink (zOwnL.getD 11 "") 142 (zY 219) ∈ lw_tbl ∧ 0 < 219 ∧ 219 < 335 := ⟨zch6 (List.mem_of_getElem? (i := 189) rfl), by decide, by decide⟩
set_option maxRecDepth 100000 in
theorem zmw_279 : Cond.methodLink (zOwnL.getD 11 "") 143 (zY 58) ∈ lw_tbl ∧ 0 < 58 ∧ 58 < 335 := ⟨zch2 (List.mem_of_getElem? (i := 97) rfl), by decide, by decide⟩
set_option maxRecDepth 100000 in
theorem zmw_280 : Cond.methodLink (zOwnL.getD 11 "") 148 (zY 221) ∈ lw_tbl ∧ 0 < 221 ∧ 221 < 335 := ⟨zch6 (List.mem_of_getElem? (i := 197) rfl), by decide, by decide⟩
set_option maxRecDepth 100000 in
theorem zmw_281 : Cond.methodLink (zOwnL.getD 11 "") 149 (zY 214) ∈ lw_tbl ∧ 0 < 214 ∧ 214 < 335 := ⟨zch5 (List.mem_of_getElem? (i := 186) rfl), by decide, by decide⟩
set_option maxRecDepth 100000 in
theorem zmw_282 : Cond.methodLink (zOwnL.getD 11 "") 153 (zY 89) ∈ lw_tbl ∧ 0 < 89 ∧ 89 < 335 := ⟨zch3 (List.mem_of_getElem? (i := 111) rfl), by decide, by decide⟩
set_option maxRecDepth 100000 in
theorem zmw_283 : Cond.methodLink (zOwnL.getD 11 "") 155 (zY 241) ∈ lw_tbl ∧ 0 < 241 ∧ 241 < 335 := ⟨zch7 (List.mem_of_getElem? (i := 46) rfl), by decide, by decide⟩
set_option maxRecDepth 100000 in
theorem zmw_284 : Cond.methodLink (zOwnL.getD 11 "") 156 (zY 102) ∈ lw_tbl ∧ 0 < 102 ∧ 102 < 335 := ⟨zch3 (List.mem_of_getElem? (i := 178) rfl), by decide, by decide⟩
set_option maxRecDepth 100000 in
theorem zmw_285 : Cond.methodLink (zOwnL.getD 11 "") 158 (zY 250) ∈ lw_tbl ∧ 0 < 250 ∧ 250 < 335 := ⟨zch7 (List.mem_of_getElem? (i := 89) rfl), by decide, by decide⟩
set_option maxRecDepth 100000 in
theorem zmw_286 : Cond.methodLink (zOwnL.getD 11 "") 159 (zY 107) ∈ lw_tbl ∧ 0 < 107 ∧ 107 < 335 := ⟨zch3 (List.mem_of_getElem? (i := 206) rfl), by decide, by decide⟩
set_option maxRecDepth 100000 in
theorem zmw_287 : Cond.methodLink (zOwnL.getD 11 "") 161 (zY 252) ∈ lw_tbl ∧ 0 < 252 ∧ 252 < 335 := ⟨zch7 (List.mem_of_getElem? (i := 97) rfl), by decide, by decide⟩
set_option maxRecDepth 100000 in
theorem zmw_288 : Cond.methodLink (zOwnL.getD 11 "") 162 (zY 17) ∈ lw_tbl ∧ 0 < 17 ∧ 17 < 335 := ⟨zch1 (List.mem_of_getElem? (i := 153) rfl), by decide, by decide⟩
set_option maxRecDepth 100000 in
theorem zmw_289 : Cond.methodLink (zOwnL.getD 11 "") 165 (zY 220) ∈ lw_tbl ∧ 0 < 220 ∧ 220 < 335 := ⟨zch6 (List.mem_of_getElem? (i := 193) rfl), by decide, by decide⟩
set_option maxRecDepth 100000 in
theorem zmw_290 : Cond.methodLink (zOwnL.getD 11 "") 166 (zY 111) ∈ lw_tbl ∧ 0 < 111 ∧ 111 < 335 := ⟨zch3 (List.mem_of_getElem? (i := 227) rfl), by decide, by decide⟩
set_option maxRecDepth 100000 in
theorem zmw_291 : Cond.methodLink (zOwnL.getD 11 "") 168 (zY 253) ∈ lw_tbl ∧ 0 < 253 ∧ 253 < 335 := ⟨zch7 (List.mem_of_getElem? (i := 101) rfl), by decide, by decide⟩
set_option maxRecDepth 100000 in
theorem zmw_292 : Cond.methodLink (zOwnL.getD 11 "") 169 (zY 115) ∈ lw_tbl ∧ 0 < 115 ∧ 115 < 335 := ⟨zch4 (List.mem_of_getElem? (i := 3) rfl), by decide, by decide⟩
set_option maxRecDepth 100000 in
theorem zmw_293 : Cond.methodLink (zOwnL.getD 11 "") 172 (zY 255) ∈ lw_tbl ∧ 0 < 255 ∧ 255 < 335 := ⟨zch7 (List.mem_of_getElem? (i := 108) rfl), by decide, by decide⟩
set_option maxRecDepth 100000 in
theorem zmw_294 : Cond.methodLink (zOwnL.getD 11 "") 173 (zY 118) ∈ lw_tbl ∧ 0 < 118 ∧ 118 < 335 := ⟨zch4 (List.mem_of_getElem? (i := 31) rfl), by decide, by decide⟩
set_option maxRecDepth 100000 in
theorem zmw_295 : Cond.methodLink (zOwnL.getD 11 "") 175 (zY 257) ∈ lw_tbl ∧ 0 < 257 ∧ 257 < 335 := ⟨zch7 (List.mem_of_getElem? (i := 116) rfl), by decide, by decide⟩
set_option maxRecDepth 100000 in
theorem zmw_296 : Cond.methodLink (zOwnL.getD 11 "") 176 (zY 120) ∈ lw_tbl ∧ 0 < 120 ∧ 120 < 335 := ⟨zch4 (List.mem_of_getElem? (i := 38) rfl), by decide, by decide⟩
set_option maxRecDepth 100000 in
theorem zmw_297 : Cond.methodLink (zOwnL.getD 11 "") 178 (zY 259) ∈ lw_tbl ∧ 0 < 259 ∧ 259 < 335 := ⟨zch7 (List.mem_of_getElem? (i := 124) rfl), by decide, by decide⟩
set_option maxRecDepth 100000 in
theorem zmw_298 : Cond.methodLink (zOwnL.getD 11 "") 179 (zY 122) ∈ lw_tbl ∧ 0 < 122 ∧ 122 < 335 := ⟨zch4 (List.mem_of_getElem? (i := 45) rfl), by decide, by decide⟩
set_option maxRecDepth 100000 in
theorem zmw_299 : Cond.methodLink (zOwnL.getD 11 "") 181 (zY 260) ∈ lw_tbl ∧ 0 < 260 ∧ 260 < 335 := ⟨zch7 (List.mem_of_getElem? (i := 128) rfl), by decide, by decide⟩
set_option maxRecDepth 100000 in
theorem zmw_300 : Cond.methodLink (zOwnL.getD 11 "") 182 (zY 124) ∈ lw_tbl ∧ 0 < 124 ∧ 124 < 335 := ⟨zch4 (List.mem_of_getElem? (i := 53) rfl), by decide, by decide⟩
set_option maxRecDepth 100000 in
theorem zmw_301 : Cond.methodLink (zOwnL.getD 11 "") 185 (zY 261) ∈ lw_tbl ∧ 0 < 261 ∧ 261 < 335 := ⟨zch7 (List.mem_of_getElem? (i := 132) rfl), by decide, by decide⟩
set_option maxRecDepth 100000 in
theorem zmw_302 : Cond.methodLink (zOwnL.getD 11 "") 186 (zY 126) ∈ lw_tbl ∧ 0 < 126 ∧ 126 < 335 := ⟨zch4 (List.mem_of_getElem? (i := 61) rfl), by decide, by decide⟩
set_option maxRecDepth 100000 in
theorem zmw_303 : Cond.methodLink (zOwnL.getD 11 "") 188 (zY 265) ∈ lw_tbl ∧ 0 < 265 ∧ 265 < 335 := ⟨zch7 (List.mem_of_getElem? (i := 147) rfl), by decide, by decide⟩
set_option maxRecDepth 100000 in
theorem zmw_304 : Cond.methodLink (zOwnL.getD 11 "") 189 (zY 18) ∈ lw_tbl ∧ 0 < 18 ∧ 18 < 335 := ⟨zch1 (List.mem_of_getElem? (i := 157) rfl), by decide, by decide⟩
set_option maxRecDepth 100000 in
theorem zmw_305 : Cond.methodLink (zOwnL.getD 11 "") 192 (zY 276) ∈ lw_tbl ∧ 0 < 276 ∧ 276 < 335 := ⟨zch7 (List.mem_of_getElem? (i := 192) rfl), by decide, by decide⟩
set_option maxRecDepth 100000 in
theorem zmw_306 : Cond.methodLink (zOwnL.getD 11 "") 193 (zY 128) ∈ lw_tbl ∧ 0 < 128 ∧ 128 < 335 := ⟨zch4 (List.mem_of_getElem? (i := 68) rfl), by decide, by decide⟩
set_option maxRecDepth 100000 in
theorem zmw_307 : Cond.methodLink (zOwnL.getD 11 "") 195 (zY 277) ∈ lw_tbl ∧ 0 < 277 ∧ 277 < 335 := ⟨zch7 (List.mem_of_getElem? (i := 196) rfl), by decide, by decide⟩
set_option maxRecDepth 100000 in
theorem zmw_308 : Cond.methodLink (zOwnL.getD 11 "") 196 (zY 130) ∈ lw_tbl ∧ 0 < 130 ∧ 130 < 335 := ⟨zch4 (List.mem_of_getElem? (i := 75) rfl), by decide, by decide⟩
set_option maxRecDepth 100000 in
theorem zmw_309 : Cond.methodLink (zOwnL.getD 11 "") 198 (zY 278) ∈ lw_tbl ∧ 0 < 278 ∧ 278 < 335 := ⟨zch7 (List.mem_of_getElem? (i := 200) rfl), by decide, by decide⟩
set_option maxRecDepth 100000 in
theorem zmw_310 : Cond.methodLink (zOwnL.getD 11 "") 199 (zY 36) ∈ lw_tbl ∧ 0 < 36 ∧ 36 < 335 := ⟨zch2 (List.mem_of_getElem? (i := 3) rfl), by decide, by decide⟩
set_option maxRecDepth 100000 in
theorem zmw_311 : Cond.methodLink (zOwnL.getD 11 "") 202 (zY 279) ∈ lw_tbl ∧ 0 < 279 ∧ 279 < 335 := ⟨zch7 (List.mem_of_getElem? (i := 204) rfl), by decide, by decide⟩
set_option maxRecDepth 100000 in
theorem zmw_312 : Cond.methodLink (zOwnL.getD 11 "") 203 (zY 132) ∈ lw_tbl ∧ 0 < 132 ∧ 132 < 335 := ⟨zch4 (List.mem_of_getElem? (i := 82) rfl), by decide, by decide⟩
set_option maxRecDepth 100000 in
theorem zmw_313 : Cond.methodLink (zOwnL.getD 11 "") 205 (zY 280) ∈ lw_tbl ∧ 0 < 280 ∧ 280 < 335 := ⟨zch7 (List.mem_of_getElem? (i := 208) rfl), by decide, by decide⟩
set_option maxRecDepth 100000 in
theorem zmw_314 : Cond.methodLink (zOwnL.getD 11 "") 206 (zY 37) ∈ lw_tbl ∧ 0 < 37 ∧ 37 < 335 := ⟨zch2 (List.mem_of_getElem? (i := 7) rfl), by decide, by decide⟩
set_option maxRecDepth 100000 in
theorem zmw_315 : Cond.methodLink (zOwnL.getD 11 "") 209 (zY 282) ∈ lw_tbl ∧ 0 < 282 ∧ 282 < 335 := ⟨zch7 (List.mem_of_getElem? (i := 216) rfl), by decide, by decide⟩
set_option maxRecDepth 100000 in
theorem zmw_316 : Cond.methodLink (zOwnL.getD 11 "") 210 (zY 134) ∈ lw_tbl ∧ 0 < 134 ∧ 134 < 335 := ⟨zch4 (List.mem_of_getElem? (i := 89) rfl), by decide, by decide⟩
set_option maxRecDepth 100000 in
theorem zmw_317 : Cond.methodLink (zOwnL.getD 11 "") 212 (zY 283) ∈ lw_tbl ∧ 0 < 283 ∧ 283 < 335 := ⟨zch7 (List.mem_of_getElem? (i := 220) rfl), by decide, by decide⟩
set_option maxRecDepth 100000 in
theorem zmw_318 : Cond.methodLink (zOwnL.getD 11 "") 213 (zY 136) ∈ lw_tbl ∧ 0 < 136 ∧ 136 < 335 := ⟨zch4 (List.mem_of_getElem? (i := 96) rfl), by decide, by decide⟩
set_option maxRecDepth 100000 in
theorem zmw_319 : Cond.methodLink (zOwnL.getD 11 "") 215 (zY 284) ∈ lw_tbl ∧ 0 < 284 ∧ 284 < 335 := ⟨zch7 (List.mem_of_getElem? (i := 224) rfl), by decide, by decide⟩
set_option maxRecDepth 100000 in
theorem zmw_320 : Cond.methodLink (zOwnL.getD 11 "") 216 (zY 138) ∈ lw_tbl ∧ 0 < 138 ∧ 138 < 335 := ⟨zch4 (List.mem_of_getElem? (i := 103) rfl), by decide, by decide⟩
set_option maxRecDepth 100000 in
theorem zmw_321 : Cond.methodLink (zOwnL.getD 11 "") 218 (zY 285) ∈ lw_tbl ∧ 0 < 285 ∧ 285 < 335 := ⟨zch7 (List.mem_of_getElem? (i := 228) rfl), by decide, by decide⟩
set_option maxRecDepth 100000 in
theorem zmw_322 : Cond.methodLink (zOwnL.getD 11 "") 219 (zY 152) ∈ lw_tbl ∧ 0 < 152 ∧ 152 < 335 := ⟨zch4 (List.mem_of_getElem? (i := 183) rfl), by decide, by decide⟩
set_option maxRecDepth 100000 in
theorem zmw_323 : Cond.methodLink (zOwnL.getD 11 "") 221 (zY 288) ∈ lw_tbl ∧ 0 < 288 ∧ 288 < 335 := ⟨zch8 (List.mem_of_getElem? (i := 1) rfl), by decide, by decide⟩
set_option maxRecDepth 100000 in
theorem zmw_324 : Cond.methodLink (zOwnL.getD 11 "") 222 (zY 155) ∈ lw_tbl ∧ 0 < 155 ∧ 155 < 335 := ⟨zch4 (List.mem_of_getElem? (i := 194) rfl), by decide, by decide⟩
set_option maxRecDepth 100000 in
theorem zmw_325 : Cond.methodLink (zOwnL.getD 11 "") 225 (zY 289) ∈ lw_tbl ∧ 0 < 289 ∧ 289 < 335 := ⟨zch8 (List.mem_of_getElem? (i := 5) rfl), by decide, by decide⟩
set_option maxRecDepth 100000 in
theorem zmw_326 : Cond.methodLink (zOwnL.getD 11 "") 226 (zY 158) ∈ lw_tbl ∧ 0 < 158 ∧ 158 < 335 := ⟨zch4 (List.mem_of_getElem? (i := 206) rfl), by decide, by decide⟩
set_option maxRecDepth 100000 in
theorem zmw_327 : Cond.methodLink (zOwnL.getD 11 "") 228 (zY 294) ∈ lw_tbl ∧ 0 < 294 ∧ 294 < 335 := ⟨zch8 (List.mem_of_getElem? (i := 23) rfl), by decide, by decide⟩
set_option maxRecDepth 100000 in
theorem zmw_328 : Cond.methodLink (zOwnL.getD 11 "") 229 (zY 160) ∈ lw_tbl ∧ 0 < 160 ∧ 160 < 335 := ⟨zch4 (List.mem_of_getElem? (i := 214) rfl), by decide, by decide⟩
set_option maxRecDepth 100000 in
theorem zmw_329 : Cond.methodLink (zOwnL.getD 11 "") 232 (zY 295) ∈ lw_tbl ∧ 0 < 295 ∧ 295 < 335 := ⟨zch8 (List.mem_of_getElem? (i := 27) rfl), by decide, by decide⟩
set_option maxRecDepth 100000 in
theorem zmw_330 : Cond.methodLink (zOwnL.getD 11 "") 233 (zY 162) ∈ lw_tbl ∧ 0 < 162 ∧ 162 < 335 := ⟨zch4 (List.mem_of_getElem? (i := 225) rfl), by decide, by decide⟩
set_option maxRecDepth 100000 in
theorem zmw_331 : Cond.methodLink (zOwnL.getD 11 "") 235 (zY 296) ∈ lw_tbl ∧ 0 < 296 ∧ 296 < 335 := ⟨zch8 (List.mem_of_getElem? (i := 31) rfl), by decide, by decide⟩
set_option maxRecDepth 100000 in
theorem zmw_332 : Cond.methodLink (zOwnL.getD 11 "") 236 (zY 168) ∈ lw_tbl ∧ 0 < 168 ∧ 168 < 335 := ⟨zch5 (List.mem_of_getElem? (i := 5) rfl), by decide, by decide⟩
set_option maxRecDepth 100000 in
theorem zmw_333 : Cond.methodLink (zOwnL.getD 11 "") 238 (zY 302) ∈ lw_tbl ∧ 0 < 302 ∧ 302 < 335 := ⟨zch8 (List.mem_of_getElem? (i := 54) rfl), by decide, by decide⟩
set_option maxRecDepth 100000 in
theorem zmw_334 : Cond.methodLink (zOwnL.getD 11 "") 239 (zY 170) ∈ lw_tbl ∧ 0 < 170 ∧ 170 < 335 := ⟨zch5 (List.mem_of_getElem? (i := 13) rfl), by decide, by decide⟩
set_option maxRecDepth 100000 in
theorem zmw_335 : Cond.methodLink (zOwnL.getD 11 "") 241 (zY 303) ∈ lw_tbl ∧ 0 < 303 ∧ 303 < 335 := ⟨zch8 (List.mem_of_getElem? (i := 59) rfl), by decide, by decide⟩
set_option maxRecDepth 100000 in
theorem zmw_336 : Cond.methodLink (zOwnL.getD 11 "") 242 (zY 172) ∈ lw_tbl ∧ 0 < 172 ∧ 172 < 335 := ⟨zch5 (List.mem_of_getElem? (i := 20) rfl), by decide, by decide⟩
set_option maxRecDepth 100000 in
theorem zmw_337 : Cond.methodLink (zOwnL.getD 11 "") 244 (zY 304) ∈ lw_tbl ∧ 0 < 304 ∧ 304 < 335 := ⟨zch8 (List.mem_of_getElem? (i := 63) rfl), by decide, by decide⟩
set_option maxRecDepth 100000 in
theorem zmw_338 : Cond.methodLink (zOwnL.getD 11 "") 245 (zY 175) ∈ lw_tbl ∧ 0 < 175 ∧ 175 < 335 := ⟨zch5 (List.mem_of_getElem? (i := 32) rfl), by decide, by decide⟩
set_option maxRecDepth 100000 in
theorem zmw_339 : Cond.methodLink (zOwnL.getD 11 "") 247 (zY 306) ∈ lw_tbl ∧ 0 < 306 ∧ 306 < 335 := ⟨zch8 (List.mem_of_getElem? (i := 71) rfl), by decide, by decide⟩
set_option maxRecDepth 100000 in
theorem zmw_340 : Cond.methodLink (zOwnL.getD 11 "") 248 (zY 177) ∈ lw_tbl ∧ 0 < 177 ∧ 177 < 335 := ⟨zch5 (List.mem_of_getElem? (i := 40) rfl), by decide, by decide⟩
set_option maxRecDepth 100000 in
theorem zmw_341 : Cond.methodLink (zOwnL.getD 11 "") 250 (zY 307) ∈ lw_tbl ∧ 0 < 307 ∧ 307 < 335 := ⟨zch8 (List.mem_of_getElem? (i := 75) rfl), by decide, by decide⟩
set_option maxRecDepth 100000 in
theorem zmw_342 : Cond.methodLink (zOwnL.getD 11 "") 251 (zY 182) ∈ lw_tbl ∧ 0 < 182 ∧ 182 < 335 := ⟨zch5 (List.mem_of_getElem? (i := 63) rfl), by decide, by decide⟩
set_option maxRecDepth 100000 in
theorem zmw_343 : Cond.methodLink (zOwnL.getD 11 "") 253 (zY 310) ∈ lw_tbl ∧ 0 < 310 ∧ 310 < 335 := ⟨zch8 (List.mem_of_getElem? (i := 87) rfl), by decide, by decide⟩
set_option maxRecDepth 100000 in
theorem zmw_344 : Cond.methodLink (zOwnL.getD 11 "") 254 (zY 185) ∈ lw_tbl ∧ 0 < 185 ∧ 185 < 335 := ⟨zch5 (List.mem_of_getElem? (i := 75) rfl), by decide, by decide⟩
set_option maxRecDepth 100000 in
theorem zmw_345 : Cond.methodLink (zOwnL.getD 11 "") 256 (zY 311) ∈ lw_tbl ∧ 0 < 311 ∧ 311 < 335 := ⟨zch8 (List.mem_of_getElem? (i := 92) rfl), by decide, by decide⟩
set_option maxRecDepth 100000 in
theorem zmw_346 : Cond.methodLink (zOwnL.getD 11 "") 257 (zY 187) ∈ lw_tbl ∧ 0 < 187 ∧ 187 < 335 := ⟨zch5 (List.mem_of_getElem? (i := 82) rfl), by decide, by decide⟩
set_option maxRecDepth 100000 in
theorem zmw_347 : Cond.methodLink (zOwnL.getD 11 "") 259 (zY 312) ∈ lw_tbl ∧ 0 < 312 ∧ 312 < 335 := ⟨zch8 (List.mem_of_getElem? (i := 96) rfl), by decide, by decide⟩
set_option maxRecDepth 100000 in
theorem zmw_348 : Cond.methodLink (zOwnL.getD 11 "") 260 (zY 193) ∈ lw_tbl ∧ 0 < 193 ∧ 193 < 335 := ⟨zch5 (List.mem_of_getElem? (i := 108) rfl), by decide, by decide⟩
set_option maxRecDepth 100000 in
theorem zmw_349 : Cond.methodLink (zOwnL.getD 11 "") 262 (zY 315) ∈ lw_tbl ∧ 0 < 315 ∧ 315 < 335 := ⟨zch8 (List.mem_of_getElem? (i := 109) rfl), by decide, by decide⟩
set_option maxRecDepth 100000 in
theorem zmw_350 : Cond.methodLink (zOwnL.getD 11 "") 263 (zY 196) ∈ lw_tbl ∧ 0 < 196 ∧ 196 < 335 := ⟨zch5 (List.mem_of_getElem? (i := 119) rfl), by decide, by decide⟩
set_option maxRecDepth 100000 in
theorem zmw_351 : Cond.methodLink (zOwnL.getD 11 "") 265 (zY 316) ∈ lw_tbl ∧ 0 < 316 ∧ 316 < 335 := ⟨zch8 (List.mem_of_getElem? (i := 113) rfl), by decide, by decide⟩
set_option maxRecDepth 100000 in
theorem zmw_352 : Cond.methodLink (zOwnL.getD 11 "") 266 (zY 42) ∈ lw_tbl ∧ 0 < 42 ∧ 42 < 335 := ⟨zch2 (List.mem_of_getElem? (i := 27) rfl), by decide, by decide⟩
set_option maxRecDepth 100000 in
theorem zmw_353 : Cond.methodLink (zOwnL.getD 11 "") 269 (zY 318) ∈ lw_tbl ∧ 0 < 318 ∧ 318 < 335 := ⟨zch8 (List.mem_of_getElem? (i := 121) rfl), by decide, by decide⟩
set_option maxRecDepth 100000 in
theorem zmw_354 : Cond.methodLink (zOwnL.getD 11 "") 270 (zY 47) ∈ lw_tbl ∧ 0 < 47 ∧ 47 < 335 := ⟨zch2 (List.mem_of_getElem? (i := 46) rfl), by decide, by decide⟩
set_option maxRecDepth 100000 in
theorem zmw_355 : Cond.methodLink (zOwnL.getD 11 "") 273 (zY 320) ∈ lw_tbl ∧ 0 < 320 ∧ 320 < 335 := ⟨zch8 (List.mem_of_getElem? (i := 129) rfl), by decide, by decide⟩
set_option maxRecDepth 100000 in
theorem zmw_356 : Cond.methodLink (zOwnL.getD 11 "") 274 (zY 198) ∈ lw_tbl ∧ 0 < 198 ∧ 198 < 335 := ⟨zch5 (List.mem_of_getElem? (i := 126) rfl), by decide, by decide⟩
set_option maxRecDepth 100000 in
theorem zmw_357 : Cond.methodLink (zOwnL.getD 11 "") 276 (zY 321) ∈ lw_tbl ∧ 0 < 321 ∧ 321 < 335 := ⟨zch8 (List.mem_of_getElem? (i := 133) rfl), by decide, by decide⟩
set_option maxRecDepth 100000 in
theorem zmw_358 : Cond.methodLink (zOwnL.getD 11 "") 277 (zY 202) ∈ lw_tbl ∧ 0 < 202 ∧ 202 < 335 := ⟨zch5 (List.mem_of_getElem? (i := 141) rfl), by decide, by decide⟩
set_option maxRecDepth 100000 in
theorem zmw_359 : Cond.methodLink (zOwnL.getD 11 "") 279 (zY 323) ∈ lw_tbl ∧ 0 < 323 ∧ 323 < 335 := ⟨zch8 (List.mem_of_getElem? (i := 141) rfl), by decide, by decide⟩
set_option maxRecDepth 100000 in
theorem zmw_360 : Cond.methodLink (zOwnL.getD 11 "") 280 (zY 204) ∈ lw_tbl ∧ 0 < 204 ∧ 204 < 335 := ⟨zch5 (List.mem_of_getElem? (i := 149) rfl), by decide, by decide⟩
set_option maxRecDepth 100000 in
theorem zmw_361 : Cond.methodLink (zOwnL.getD 11 "") 282 (zY 324) ∈ lw_tbl ∧ 0 < 324 ∧ 324 < 335 := ⟨zch8 (List.mem_of_getElem? (i := 145) rfl), by decide, by decide⟩
set_option maxRecDepth 100000 in
theorem zmw_362 : Cond.methodLink (zOwnL.getD 11 "") 283 (zY 208) ∈ lw_tbl ∧ 0 < 208 ∧ 208 < 335 := ⟨zch5 (List.mem_of_getElem? (i := 164) rfl), by decide, by decide⟩
set_option maxRecDepth 100000 in
theorem zmw_363 : Cond.methodLink (zOwnL.getD 11 "") 285 (zY 327) ∈ lw_tbl ∧ 0 < 327 ∧ 327 < 335 := ⟨zch8 (List.mem_of_getElem? (i := 157) rfl), by decide, by decide⟩
set_option maxRecDepth 100000 in
theorem zmw_364 : Cond.methodLink (zOwnL.getD 11 "") 286 (zY 211) ∈ lw_tbl ∧ 0 < 211 ∧ 211 < 335 := ⟨zch5 (List.mem_of_getElem? (i := 175) rfl), by decide, by decide⟩
set_option maxRecDepth 100000 in
theorem zmw_365 : Cond.methodLink (zOwnL.getD 11 "") 288 (zY 328) ∈ lw_tbl ∧ 0 < 328 ∧ 328 < 335 := ⟨zch8 (List.mem_of_getElem? (i := 161) rfl), by decide, by decide⟩
set_option maxRecDepth 100000 in
theorem zmw_366 : Cond.methodLink (zOwnL.getD 11 "") 289 (zY 49) ∈ lw_tbl ∧ 0 < 49 ∧ 49 < 335 := ⟨zch2 (List.mem_of_getElem? (i := 58) rfl), by decide, by decide⟩
set_option maxRecDepth 100000 in
theorem zmw_367 : Cond.methodLink (zOwnL.getD 11 "") 292 (zY 329) ∈ lw_tbl ∧ 0 < 329 ∧ 329 < 335 := ⟨zch8 (List.mem_of_getElem? (i := 165) rfl), by decide, by decide⟩
set_option maxRecDepth 100000 in
theorem zmw_368 : Cond.methodLink (zOwnL.getD 11 "") 293 (zY 53) ∈ lw_tbl ∧ 0 < 53 ∧ 53 < 335 := ⟨zch2 (List.mem_of_getElem? (i := 74) rfl), by decide, by decide⟩
set_option maxRecDepth 100000 in
theorem zmw_369 : Cond.methodLink (zOwnL.getD 11 "") 296 (zY 331) ∈ lw_tbl ∧ 0 < 331 ∧ 331 < 335 := ⟨zch8 (List.mem_of_getElem? (i := 173) rfl), by decide, by decide⟩
set_option maxRecDepth 100000 in
theorem zmw_370 : Cond.methodLink (zOwnL.getD 11 "") 297 (zY 55) ∈ lw_tbl ∧ 0 < 55 ∧ 55 < 335 := ⟨zch2 (List.mem_of_getElem? (i := 85) rfl), by decide, by decide⟩
set_option maxRecDepth 100000 in
theorem zmw_371 : Cond.methodLink (zOwnL.getD 11 "") 300 (zY 332) ∈ lw_tbl ∧ 0 < 332 ∧ 332 < 335 := ⟨zch8 (List.mem_of_getElem? (i := 177) rfl), by decide, by decide⟩
set_option maxRecDepth 100000 in
theorem zmw_372 : Cond.methodLink (zOwnL.getD 11 "") 301 (zY 56) ∈ lw_tbl ∧ 0 < 56 ∧ 56 < 335 := ⟨zch2 (List.mem_of_getElem? (i := 89) rfl), by decide, by decide⟩
set_option maxRecDepth 100000 in
theorem zmw_373 : Cond.methodLink (zOwnL.getD 11 "") 304 (zY 333) ∈ lw_tbl ∧ 0 < 333 ∧ 333 < 335 := ⟨zch8 (List.mem_of_getElem? (i := 181) rfl), by decide, by decide⟩
set_option maxRecDepth 100000 in
theorem zmw_374 : Cond.methodLink (zOwnL.getD 11 "") 305 (zY 57) ∈ lw_tbl ∧ 0 < 57 ∧ 57 < 335 := ⟨zch2 (List.mem_of_getElem? (i := 93) rfl), by decide, by decide⟩
set_option maxRecDepth 100000 in
theorem zmw_375 : Cond.methodLink (zOwnL.getD 11 "") 308 (zY 334) ∈ lw_tbl ∧ 0 < 334 ∧ 334 < 335 := ⟨zch8 (List.mem_of_getElem? (i := 185) rfl), by decide, by decide⟩
def zMsA_l0 : List (Nat × Nat × Nat) := [(0, 19, 9), (0, 25, 87), (0, 28, 65), (0, 34, 110), (0, 38, 74), (0, 42, 77), (0, 45, 45), (0, 49, 71), (0, 53, 81), (0, 63, 46), (0, 67, 43), (0, 71, 44), (1, 49, 9), (1, 66, 22), (1, 72, 27), (1, 82, 29)]
set_option maxRecDepth 100000 in
theorem zMsA_a0 : ∀ e ∈ zMsA_l0, Cond.methodLink (zOwnL.getD e.1 "") e.2.1 (zY e.2.2) ∈ lw_tbl ∧ 0 < e.2.2 ∧ e.2.2 < 335 := List.forall_mem_cons.mpr ⟨zmw_0, List.forall_mem_cons.mpr ⟨zmw_1, List.forall_mem_cons.mpr ⟨zmw_2, List.forall_mem_cons.mpr ⟨zmw_3, List.forall_mem_cons.mpr ⟨zmw_4, List.forall_mem_cons.mpr ⟨zmw_5, List.forall_mem_cons.mpr ⟨zmw_6, List.forall_mem_cons.mpr ⟨zmw_7, List.forall_mem_cons.mpr ⟨zmw_8, List.forall_mem_cons.mpr ⟨zmw_9, List.forall_mem_cons.mpr ⟨zmw_10, List.forall_mem_cons.mpr ⟨zmw_11, List.forall_mem_cons.mpr ⟨zmw_12, List.forall_mem_cons.mpr ⟨zmw_13, List.forall_mem_cons.mpr ⟨zmw_14, List.forall_mem_cons.mpr ⟨zmw_15, fun _ h => absurd h List.not_mem_nil⟩⟩⟩⟩⟩⟩⟩⟩⟩⟩⟩⟩⟩⟩⟩⟩
def zMsA_l1 : List (Nat × Nat × Nat) := [(1, 86, 35), (1, 90, 28), (1, 96, 34), (2, 21, 180), (2, 25, 24), (2, 29, 181), (3, 21, 11), (3, 28, 92), (3, 32, 65), (3, 38, 98), (3, 42, 93), (3, 45, 77), (3, 48, 82), (3, 52, 96), (3, 55, 94), (3, 58, 95)]
set_option maxRecDepth 100000 in
theorem zMsA_a1 : ∀ e ∈ zMsA_l1, Cond.methodLink (zOwnL.getD e.1 "") e.2.1 (zY e.2.2) ∈ lw_tbl ∧ 0 < e.2.2 ∧ e.2.2 < 335 := List.forall_mem_cons.mpr ⟨zmw_16, List.forall_mem_cons.mpr ⟨zmw_17, List.forall_mem_cons.mpr ⟨zmw_18, List.forall_mem_cons.mpr ⟨zmw_19, List.forall_mem_cons.mpr ⟨zmw_20, List.forall_mem_cons.mpr ⟨zmw_21, List.forall_mem_cons.mpr ⟨zmw_22, List.forall_mem_cons.mpr ⟨zmw_23, List.forall_mem_cons.mpr ⟨zmw_24, List.forall_mem_cons.mpr ⟨zmw_25, List.forall_mem_cons.mpr ⟨zmw_26, List.forall_mem_cons.mpr ⟨zmw_27, List.forall_mem_cons.mpr ⟨zmw_28, List.forall_mem_cons.mpr ⟨zmw_29, List.forall_mem_cons.mpr ⟨zmw_30, List.forall_mem_cons.mpr ⟨zmw_31, fun _ h => absurd h List.not_mem_nil⟩⟩⟩⟩⟩⟩⟩⟩⟩⟩⟩⟩⟩⟩⟩⟩
def zMsA_l2 : List (Nat × Nat × Nat) := [(3, 61, 74), (3, 65, 66), (3, 69, 97), (3, 72, 99), (3, 75, 81), (3, 79, 68), (3, 84, 70), (3, 88, 100), (3, 94, 101), (3, 98, 71), (3, 113, 32), (3, 124, 29), (3, 134, 25), (3, 138, 31), (3, 142, 33), (4, 40, 86)]
set_option maxRecDepth 100000 in
theorem zMsA_a2 : ∀ e ∈ zMsA_l2, Cond.methodLink (zOwnL.getD e.1 "") e.2.1 (zY e.2.2) ∈ lw_tbl ∧ 0 < e.2.2 ∧ e.2.2 < 335 := List.forall_mem_cons.mpr ⟨zmw_32, List.forall_mem_cons.mpr ⟨zmw_33, List.forall_mem_cons.mpr ⟨zmw_34, List.forall_mem_cons.mpr ⟨zmw_35, List.forall_mem_cons.mpr ⟨zmw_36, List.forall_mem_cons.mpr ⟨zmw_37, List.forall_mem_cons.mpr ⟨zmw_38, List.forall_mem_cons.mpr ⟨zmw_39, List.forall_mem_cons.mpr ⟨zmw_40, List.forall_mem_cons.mpr ⟨zmw_41, List.forall_mem_cons.mpr ⟨zmw_42, List.forall_mem_cons.mpr ⟨zmw_43, List.forall_mem_cons.mpr ⟨zmw_44, List.forall_mem_cons.mpr ⟨zmw_45, List.forall_mem_cons.mpr ⟨zmw_46, List.forall_mem_cons.mpr ⟨zmw_47, fun _ h => absurd h List.not_mem_nil⟩⟩⟩⟩⟩⟩⟩⟩⟩⟩⟩⟩⟩⟩⟩⟩
def zMsA_l3 : List (Nat × Nat × Nat) := [(4, 43, 65), (4, 49, 105), (4, 53, 38), (4, 58, 74), (4, 62, 77), (4, 65, 40), (4, 69, 71), (4, 73, 106), (4, 77, 95), (4, 80, 81), (4, 84, 26), (4, 86, 207), (4, 90, 51), (4, 94, 52), (5, 16, 190), (5, 20, 9)]
set_option maxRecDepth 100000 in
theorem zMsA_a3 : ∀ e ∈ zMsA_l3, Cond.methodLink (zOwnL.getD e.1 "") e.2.1 (zY e.2.2) ∈ lw_tbl ∧ 0 < e.2.2 ∧ e.2.2 < 335 := List.forall_mem_cons.mpr ⟨zmw_48, List.forall_mem_cons.mpr ⟨zmw_49, List.forall_mem_cons.mpr ⟨zmw_50, List.forall_mem_cons.mpr ⟨zmw_51, List.forall_mem_cons.mpr ⟨zmw_52, List.forall_mem_cons.mpr ⟨zmw_53, List.forall_mem_cons.mpr ⟨zmw_54, List.forall_mem_cons.mpr ⟨zmw_55, List.forall_mem_cons.mpr ⟨zmw_56, List.forall_mem_cons.mpr ⟨zmw_57, List.forall_mem_cons.mpr ⟨zmw_58, List.forall_mem_cons.mpr ⟨zmw_59, List.forall_mem_cons.mpr ⟨zmw_60, List.forall_mem_cons.mpr ⟨zmw_61, List.forall_mem_cons.mpr ⟨zmw_62, List.forall_mem_cons.mpr ⟨zmw_63, fun _ h => absurd h List.not_mem_nil⟩⟩⟩⟩⟩⟩⟩⟩⟩⟩⟩⟩⟩⟩⟩⟩
def zMsA_l4 : List (Nat × Nat × Nat) := [(5, 38, 191), (5, 53, 192), (6, 41, 8), (6, 44, 9), (6, 66, 65), (6, 72, 67), (6, 76, 83), (6, 79, 84), (6, 82, 68), (6, 85, 69), (6, 89, 71), (6, 93, 73), (6, 97, 81), (6, 103, 70), (6, 125, 74), (6, 129, 76)]
set_option maxRecDepth 100000 in
theorem zMsA_a4 : ∀ e ∈ zMsA_l4, Cond.methodLink (zOwnL.getD e.1 "") e.2.1 (zY e.2.2) ∈ lw_tbl ∧ 0 < e.2.2 ∧ e.2.2 < 335 := List.forall_mem_cons.mpr ⟨zmw_64, List.forall_mem_cons.mpr ⟨zmw_65, List.forall_mem_cons.mpr ⟨zmw_66, List.forall_mem_cons.mpr ⟨zmw_67, List.forall_mem_cons.mpr ⟨zmw_68, List.forall_mem_cons.mpr ⟨zmw_69, List.forall_mem_cons.mpr ⟨zmw_70, List.forall_mem_cons.mpr ⟨zmw_71, List.forall_mem_cons.mpr ⟨zmw_72, List.forall_mem_cons.mpr ⟨zmw_73, List.forall_mem_cons.mpr ⟨zmw_74, List.forall_mem_cons.mpr ⟨zmw_75, List.forall_mem_cons.mpr ⟨zmw_76, List.forall_mem_cons.mpr ⟨zmw_77, List.forall_mem_cons.mpr ⟨zmw_78, List.forall_mem_cons.mpr ⟨zmw_79, fun _ h => absurd h List.not_mem_nil⟩⟩⟩⟩⟩⟩⟩⟩⟩⟩⟩⟩⟩⟩⟩⟩
def zMsA_l5 : List (Nat × Nat × Nat) := [(6, 133, 78), (6, 136, 79), (6, 139, 80), (6, 142, 38), (6, 146, 77), (6, 157, 30), (6, 160, 26), (6, 163, 24), (6, 169, 25), (6, 172, 23), (6, 176, 113), (7, 49, 38), (7, 54, 9), (7, 60, 142), (7, 66, 143), (7, 70, 145)]
set_option maxRecDepth 100000 in
theorem zMsA_a5 : ∀ e ∈ zMsA_l5, Cond.methodLink (zOwnL.getD e.1 "") e.2.1 (zY e.2.2) ∈ lw_tbl ∧ 0 < e.2.2 ∧ e.2.2 < 335 := List.forall_mem_cons.mpr ⟨zmw_80, List.forall_mem_cons.mpr ⟨zmw_81, List.forall_mem_cons.mpr ⟨zmw_82, List.forall_mem_cons.mpr ⟨zmw_83, List.forall_mem_cons.mpr ⟨zmw_84, List.forall_mem_cons.mpr ⟨zmw_85, List.forall_mem_cons.mpr ⟨zmw_86, List.forall_mem_cons.mpr ⟨zmw_87, List.forall_mem_cons.mpr ⟨zmw_88, List.forall_mem_cons.mpr ⟨zmw_89, List.forall_mem_cons.mpr ⟨zmw_90, List.forall_mem_cons.mpr ⟨zmw_91, List.forall_mem_cons.mpr ⟨zmw_92, List.forall_mem_cons.mpr ⟨zmw_93, List.forall_mem_cons.mpr ⟨zmw_94, List.forall_mem_cons.mpr ⟨zmw_95, fun _ h => absurd h List.not_mem_nil⟩⟩⟩⟩⟩⟩⟩⟩⟩⟩⟩⟩⟩⟩⟩⟩
def zMsA_l6 : List (Nat × Nat × Nat) := [(7, 73, 146), (7, 77, 26), (7, 79, 144), (7, 83, 147), (7, 87, 148), (7, 91, 149), (7, 95, 150), (7, 99, 22), (7, 103, 28), (7, 113, 24), (7, 119, 29), (7, 123, 151), (8, 34, 66), (8, 38, 75), (8, 42, 72), (8, 55, 82)]
set_option maxRecDepth 100000 in
theorem zMsA_a6 : ∀ e ∈ zMsA_l6, Cond.methodLink (zOwnL.getD e.1 "") e.2.1 (zY e.2.2) ∈ lw_tbl ∧ 0 < e.2.2 ∧ e.2.2 < 335 := List.forall_mem_cons.mpr ⟨zmw_96, List.forall_mem_cons.mpr ⟨zmw_97, List.forall_mem_cons.mpr ⟨zmw_98, List.forall_mem_cons.mpr ⟨zmw_99, List.forall_mem_cons.mpr ⟨zmw_100, List.forall_mem_cons.mpr ⟨zmw_101, List.forall_mem_cons.mpr ⟨zmw_102, List.forall_mem_cons.mpr ⟨zmw_103, List.forall_mem_cons.mpr ⟨zmw_104, List.forall_mem_cons.mpr ⟨zmw_105, List.forall_mem_cons.mpr ⟨zmw_106, List.forall_mem_cons.mpr ⟨zmw_107, List.forall_mem_cons.mpr ⟨zmw_108, List.forall_mem_cons.mpr ⟨zmw_109, List.forall_mem_cons.mpr ⟨zmw_110, List.forall_mem_cons.mpr ⟨zmw_111, fun _ h => absurd h List.not_mem_nil⟩⟩⟩⟩⟩⟩⟩⟩⟩⟩⟩⟩⟩⟩⟩⟩
def zMsA_l7 : List (Nat × Nat × Nat) := [(9, 46, 7), (9, 56, 10), (9, 101, 15), (9, 105, 16), (9, 112, 60), (9, 116, 64), (9, 120, 77), (9, 123, 85), (9, 127, 11), (9, 130, 86), (9, 133, 87), (9, 134, 88), (9, 137, 38), (9, 140, 91), (9, 141, 104), (9, 147, 109)]
set_option maxRecDepth 100000 in
theorem zMsA_a7 : ∀ e ∈ zMsA_l7, Cond.methodLink (zOwnL.getD e.1 "") e.2.1 (zY e.2.2) ∈ lw_tbl ∧ 0 < e.2.2 ∧ e.2.2 < 335 := List.forall_mem_cons.mpr ⟨zmw_112, List.forall_mem_cons.mpr ⟨zmw_113, List.forall_mem_cons.mpr ⟨zmw_114, List.forall_mem_cons.mpr ⟨zmw_115, List.forall_mem_cons.mpr ⟨zmw_116, List.forall_mem_cons.mpr ⟨zmw_117, List.forall_mem_cons.mpr ⟨zmw_118, List.forall_mem_cons.mpr ⟨zmw_119, List.forall_mem_cons.mpr ⟨zmw_120, List.forall_mem_cons.mpr ⟨zmw_121, List.forall_mem_cons.mpr ⟨zmw_122, List.forall_mem_cons.mpr ⟨zmw_123, List.forall_mem_cons.mpr ⟨zmw_124, List.forall_mem_cons.mpr ⟨zmw_125, List.forall_mem_cons.mpr ⟨zmw_126, List.forall_mem_cons.mpr ⟨zmw_127, fun _ h => absurd h List.not_mem_nil⟩⟩⟩⟩⟩⟩⟩⟩⟩⟩⟩⟩⟩⟩⟩⟩
def zMsA_l8 : List (Nat × Nat × Nat) := [(9, 152, 61), (9, 156, 26), (9, 159, 113), (9, 162, 114), (9, 165, 43), (9, 174, 117), (9, 188, 30), (9, 192, 31), (9, 196, 19), (9, 209, 20), (9, 212, 21), (9, 225, 39), (9, 228, 40), (9, 232, 41), (9, 235, 140), (9, 238, 141)]
set_option maxRecDepth 100000 in
theorem zMsA_a8 : ∀ e ∈ zMsA_l8, Cond.methodLink (zOwnL.getD e.1 "") e.2.1 (zY e.2.2) ∈ lw_tbl ∧ 0 < e.2.2 ∧ e.2.2 < 335 := List.forall_mem_cons.mpr ⟨zmw_128, List.forall_mem_cons.mpr ⟨zmw_129, List.forall_mem_cons.mpr ⟨zmw_130, List.forall_mem_cons.mpr ⟨zmw_131, List.forall_mem_cons.mpr ⟨zmw_132, List.forall_mem_cons.mpr ⟨zmw_133, List.forall_mem_cons.mpr ⟨zmw_134, List.forall_mem_cons.mpr ⟨zmw_135, List.forall_mem_cons.mpr ⟨zmw_136, List.forall_mem_cons.mpr ⟨zmw_137, List.forall_mem_cons.mpr ⟨zmw_138, List.forall_mem_cons.mpr ⟨zmw_139, List.forall_mem_cons.mpr ⟨zmw_140, List.forall_mem_cons.mpr ⟨zmw_141, List.forall_mem_cons.mpr ⟨zmw_142, List.forall_mem_cons.mpr ⟨zmw_143, fun _ h => absurd h List.not_mem_nil⟩⟩⟩⟩⟩⟩⟩⟩⟩⟩⟩⟩⟩⟩⟩⟩
def zMsA_l9 : List (Nat × Nat × Nat) := [(9, 247, 154), (9, 250, 157), (9, 254, 24), (9, 265, 164), (9, 269, 165), (9, 272, 166), (9, 278, 174), (9, 288, 179), (9, 296, 184), (9, 299, 62), (9, 303, 189), (9, 307, 195), (9, 310, 44), (9, 313, 45), (9, 317, 48), (9, 324, 200)]
set_option maxRecDepth 100000 in
theorem zMsA_a9 : ∀ e ∈ zMsA_l9, Cond.methodLink (zOwnL.getD e.1 "") e.2.1 (zY e.2.2) ∈ lw_tbl ∧ 0 < e.2.2 ∧ e.2.2 < 335 := List.forall_mem_cons.mpr ⟨zmw_144, List.forall_mem_cons.mpr ⟨zmw_145, List.forall_mem_cons.mpr ⟨zmw_146, List.forall_mem_cons.mpr ⟨zmw_147, List.forall_mem_cons.mpr ⟨zmw_148, List.forall_mem_cons.mpr ⟨zmw_149, List.forall_mem_cons.mpr ⟨zmw_150, List.forall_mem_cons.mpr ⟨zmw_151, List.forall_mem_cons.mpr ⟨zmw_152, List.forall_mem_cons.mpr ⟨zmw_153, List.forall_mem_cons.mpr ⟨zmw_154, List.forall_mem_cons.mpr ⟨zmw_155, List.forall_mem_cons.mpr ⟨zmw_156, List.forall_mem_cons.mpr ⟨zmw_157, List.forall_mem_cons.mpr ⟨zmw_158, List.forall_mem_cons.mpr ⟨zmw_159, fun _ h => absurd h List.not_mem_nil⟩⟩⟩⟩⟩⟩⟩⟩⟩⟩⟩⟩⟩⟩⟩⟩
def zMsA_l10 : List (Nat × Nat × Nat) := [(9, 327, 201), (9, 339, 206), (9, 343, 210), (9, 346, 213), (9, 349, 50), (9, 355, 54), (9, 359, 63), (9, 379, 167), (10, 144, 216), (10, 147, 217), (10, 165, 226), (10, 169, 228), (10, 182, 224), (10, 186, 237), (10, 189, 232), (10, 229, 218)]
set_option maxRecDepth 100000 in
theorem zMsA_a10 : ∀ e ∈ zMsA_l10, Cond.methodLink (zOwnL.getD e.1 "") e.2.1 (zY e.2.2) ∈ lw_tbl ∧ 0 < e.2.2 ∧ e.2.2 < 335 := List.forall_mem_cons.mpr ⟨zmw_160, List.forall_mem_cons.mpr ⟨zmw_161, List.forall_mem_cons.mpr ⟨zmw_162, List.forall_mem_cons.mpr ⟨zmw_163, List.forall_mem_cons.mpr ⟨zmw_164, List.forall_mem_cons.mpr ⟨zmw_165, List.forall_mem_cons.mpr ⟨zmw_166, List.forall_mem_cons.mpr ⟨zmw_167, List.forall_mem_cons.mpr ⟨zmw_168, List.forall_mem_cons.mpr ⟨zmw_169, List.forall_mem_cons.mpr ⟨zmw_170, List.forall_mem_cons.mpr ⟨zmw_171, List.forall_mem_cons.mpr ⟨zmw_172, List.forall_mem_cons.mpr ⟨zmw_173, List.forall_mem_cons.mpr ⟨zmw_174, List.forall_mem_cons.mpr ⟨zmw_175, fun _ h => absurd h List.not_mem_nil⟩⟩⟩⟩⟩⟩⟩⟩⟩⟩⟩⟩⟩⟩⟩⟩
def zMsA_l11 : List (Nat × Nat × Nat) := [(10, 250, 230), (10, 254, 236), (10, 275, 222), (10, 279, 223), (10, 282, 225), (10, 285, 227), (10, 288, 229), (10, 291, 231), (10, 294, 233), (10, 297, 234), (10, 300, 235), (10, 303, 238), (10, 306, 239), (10, 309, 240), (10, 316, 243), (10, 319, 246)]
set_option maxRecDepth 100000 in
theorem zMsA_a11 : ∀ e ∈ zMsA_l11, Cond.methodLink (zOwnL.getD e.1 "") e.2.1 (zY e.2.2) ∈ lw_tbl ∧ 0 < e.2.2 ∧ e.2.2 < 335 := List.forall_mem_cons.mpr ⟨zmw_176, List.forall_mem_cons.mpr ⟨zmw_177, List.forall_mem_cons.mpr ⟨zmw_178, List.forall_mem_cons.mpr ⟨zmw_179, List.forall_mem_cons.mpr ⟨zmw_180, List.forall_mem_cons.mpr ⟨zmw_181, List.forall_mem_cons.mpr ⟨zmw_182, List.forall_mem_cons.mpr ⟨zmw_183, List.forall_mem_cons.mpr ⟨zmw_184, List.forall_mem_cons.mpr ⟨zmw_185, List.forall_mem_cons.mpr ⟨zmw_186, List.forall_mem_cons.mpr ⟨zmw_187, List.forall_mem_cons.mpr ⟨zmw_188, List.forall_mem_cons.mpr ⟨zmw_189, List.forall_mem_cons.mpr ⟨zmw_190, List.forall_mem_cons.mpr ⟨zmw_191, fun _ h => absurd h List.not_mem_nil⟩⟩⟩⟩⟩⟩⟩⟩⟩⟩⟩⟩⟩⟩⟩⟩
def zMsA_l12 : List (Nat × Nat × Nat) := [(10, 322, 244), (10, 325, 245), (10, 328, 242), (10, 333, 249), (10, 346, 247), (10, 351, 248), (10, 354, 264), (10, 358, 263), (10, 361, 251), (10, 364, 254), (10, 368, 256), (10, 372, 258), (10, 375, 262), (10, 378, 269), (10, 381, 270), (10, 384, 273)]
set_option maxRecDepth 100000 in
theorem zMsA_a12 : ∀ e ∈ zMsA_l12, Cond.methodLink (zOwnL.getD e.1 "") e.2.1 (zY e.2.2) ∈ lw_tbl ∧ 0 < e.2.2 ∧ e.2.2 < 335 := List.forall_mem_cons.mpr ⟨zmw_192, List.forall_mem_cons.mpr ⟨zmw_193, List.forall_mem_cons.mpr ⟨zmw_194, List.forall_mem_cons.mpr ⟨zmw_195, List.forall_mem_cons.mpr ⟨zmw_196, List.forall_mem_cons.mpr ⟨zmw_197, List.forall_mem_cons.mpr ⟨zmw_198, List.forall_mem_cons.mpr ⟨zmw_199, List.forall_mem_cons.mpr ⟨zmw_200, List.forall_mem_cons.mpr ⟨zmw_201, List.forall_mem_cons.mpr ⟨zmw_202, List.forall_mem_cons.mpr ⟨zmw_203, List.forall_mem_cons.mpr ⟨zmw_204, List.forall_mem_cons.mpr ⟨zmw_205, List.forall_mem_cons.mpr ⟨zmw_206, List.forall_mem_cons.mpr ⟨zmw_207, fun _ h => absurd h List.not_mem_nil⟩⟩⟩⟩⟩⟩⟩⟩⟩⟩⟩⟩⟩⟩⟩⟩
def zMsA_l13 : List (Nat × Nat × Nat) := [(10, 390, 268), (10, 393, 271), (10, 396, 272), (10, 399, 274), (10, 402, 275), (10, 405, 266), (10, 408, 267), (10, 412, 281), (10, 421, 287), (10, 426, 286), (10, 429, 293), (10, 432, 290), (10, 435, 291), (10, 438, 292), (10, 441, 300), (10, 444, 298)]
set_option maxRecDepth 100000 in
theorem zMsA_a13 : ∀ e ∈ zMsA_l13, Cond.methodLink (zOwnL.getD e.1 "") e.2.1 (zY e.2.2) ∈ lw_tbl ∧ 0 < e.2.2 ∧ e.2.2 < 335 := List.forall_mem_cons.mpr ⟨zmw_208, List.forall_mem_cons.mpr ⟨zmw_209, List.forall_mem_cons.mpr ⟨zmw_210, List.forall_mem_cons.mpr ⟨zmw_211, List.forall_mem_cons.mpr ⟨zmw_212, List.forall_mem_cons.mpr ⟨zmw_213, List.forall_mem_cons.mpr ⟨zmw_214, List.forall_mem_cons.mpr ⟨zmw_215, List.forall_mem_cons.mpr ⟨zmw_216, List.forall_mem_cons.mpr ⟨zmw_217, List.forall_mem_cons.mpr ⟨zmw_218, List.forall_mem_cons.mpr ⟨zmw_219, List.forall_mem_cons.mpr ⟨zmw_220, List.forall_mem_cons.mpr ⟨zmw_221, List.forall_mem_cons.mpr ⟨zmw_222, List.forall_mem_cons.mpr ⟨zmw_223, fun _ h => absurd h List.not_mem_nil⟩⟩⟩⟩⟩⟩⟩⟩⟩⟩⟩⟩⟩⟩⟩⟩
def zMsA_l14 : List (Nat × Nat × Nat) := [(10, 448, 297), (10, 453, 299), (10, 457, 301), (10, 462, 305), (10, 471, 309), (10, 474, 308), (10, 482, 313), (10, 485, 314), (10, 488, 317), (10, 491, 319), (10, 499, 322), (10, 502, 326), (10, 506, 325), (10, 508, 330), (11, 7, 59), (11, 15, 90)]
set_option maxRecDepth 100000 in
theorem zMsA_a14 : ∀ e ∈ zMsA_l14, Cond.methodLink (zOwnL.getD e.1 "") e.2.1 (zY e.2.2) ∈ lw_tbl ∧ 0 < e.2.2 ∧ e.2.2 < 335 := List.forall_mem_cons.mpr ⟨zmw_224, List.forall_mem_cons.mpr ⟨zmw_225, List.forall_mem_cons.mpr ⟨zmw_226, List.forall_mem_cons.mpr ⟨zmw_227, List.forall_mem_cons.mpr ⟨zmw_228, List.forall_mem_cons.mpr ⟨zmw_229, List.forall_mem_cons.mpr ⟨zmw_230, List.forall_mem_cons.mpr ⟨zmw_231, List.forall_mem_cons.mpr ⟨zmw_232, List.forall_mem_cons.mpr ⟨zmw_233, List.forall_mem_cons.mpr ⟨zmw_234, List.forall_mem_cons.mpr ⟨zmw_235, List.forall_mem_cons.mpr ⟨zmw_236, List.forall_mem_cons.mpr ⟨zmw_237, List.forall_mem_cons.mpr ⟨zmw_238, List.forall_mem_cons.mpr ⟨zmw_239, fun _ h => absurd h List.not_mem_nil⟩⟩⟩⟩⟩⟩⟩⟩⟩⟩⟩⟩⟩⟩⟩⟩
def zMsA_l15 : List (Nat × Nat × Nat) := [(11, 18, 103), (11, 21, 108), (11, 24, 112), (11, 27, 116), (11, 33, 119), (11, 36, 121), (11, 39, 123), (11, 43, 125), (11, 47, 127), (11, 50, 129), (11, 53, 131), (11, 56, 133), (11, 59, 135), (11, 62, 137), (11, 65, 139), (11, 70, 153)]
set_option maxRecDepth 100000 in
theorem zMsA_a15 : ∀ e ∈ zMsA_l15, Cond.methodLink (zOwnL.getD e.1 "") e.2.1 (zY e.2.2) ∈ lw_tbl ∧ 0 < e.2.2 ∧ e.2.2 < 335 := List.forall_mem_cons.mpr ⟨zmw_240, List.forall_mem_cons.mpr ⟨zmw_241, List.forall_mem_cons.mpr ⟨zmw_242, List.forall_mem_cons.mpr ⟨zmw_243, List.forall_mem_cons.mpr ⟨zmw_244, List.forall_mem_cons.mpr ⟨zmw_245, List.forall_mem_cons.mpr ⟨zmw_246, List.forall_mem_cons.mpr ⟨zmw_247, List.forall_mem_cons.mpr ⟨zmw_248, List.forall_mem_cons.mpr ⟨zmw_249, List.forall_mem_cons.mpr ⟨zmw_250, List.forall_mem_cons.mpr ⟨zmw_251, List.forall_mem_cons.mpr ⟨zmw_252, List.forall_mem_cons.mpr ⟨zmw_253, List.forall_mem_cons.mpr ⟨zmw_254, List.forall_mem_cons.mpr ⟨zmw_255, fun _ h => absurd h List.not_mem_nil⟩⟩⟩⟩⟩⟩⟩⟩⟩⟩⟩⟩⟩⟩⟩⟩
def zMsA_l16 : List (Nat × Nat × Nat) := [(11, 73, 156), (11, 77, 159), (11, 80, 161), (11, 84, 163), (11, 88, 169), (11, 91, 171), (11, 94, 173), (11, 97, 176), (11, 100, 178), (11, 103, 183), (11, 106, 186), (11, 109, 188), (11, 112, 194), (11, 115, 197), (11, 119, 199), (11, 122, 203)]
set_option maxRecDepth 100000 in
theorem zMsA_a16 : ∀ e ∈ zMsA_l16, Cond.methodLink (zOwnL.getD e.1 "") e.2.1 (zY e.2.2) ∈ lw_tbl ∧ 0 < e.2.2 ∧ e.2.2 < 335 := List.forall_mem_cons.mpr ⟨zmw_256, List.forall_mem_cons.mpr ⟨zmw_257, List.forall_mem_cons.mpr ⟨zmw_258, List.forall_mem_cons.mpr ⟨zmw_259, List.forall_mem_cons.mpr ⟨zmw_260, List.forall_mem_cons.mpr ⟨zmw_261, List.forall_mem_cons.mpr ⟨zmw_262, List.forall_mem_cons.mpr ⟨zmw_263, List.forall_mem_cons.mpr ⟨zmw_264, List.forall_mem_cons.mpr ⟨zmw_265, List.forall_mem_cons.mpr ⟨zmw_266, List.forall_mem_cons.mpr ⟨zmw_267, List.forall_mem_cons.mpr ⟨zmw_268, List.forall_mem_cons.mpr ⟨zmw_269, List.forall_mem_cons.mpr ⟨zmw_270, List.forall_mem_cons.mpr ⟨zmw_271, fun _ h => absurd h List.not_mem_nil⟩⟩⟩⟩⟩⟩⟩⟩⟩⟩⟩⟩⟩⟩⟩⟩
def zMsA_l17 : List (Nat × Nat × Nat) := [(11, 125, 205), (11, 128, 209), (11, 131, 212), (11, 134, 1), (11, 137, 215), (11, 138, 14), (11, 142, 219), (11, 143, 58), (11, 148, 221), (11, 149, 214), (11, 153, 89), (11, 155, 241), (11, 156, 102), (11, 158, 250), (11, 159, 107), (11, 161, 252)]
set_option maxRecDepth 100000 in
theorem zMsA_a17 : ∀ e ∈ zMsA_l17, Cond.methodLink (zOwnL.getD e.1 "") e.2.1 (zY e.2.2) ∈ lw_tbl ∧ 0 < e.2.2 ∧ e.2.2 < 335 := List.forall_mem_cons.mpr ⟨zmw_272, List.forall_mem_cons.mpr ⟨zmw_273, List.forall_mem_cons.mpr ⟨zmw_274, List.forall_mem_cons.mpr ⟨zmw_275, List.forall_mem_cons.mpr ⟨zmw_276, List.forall_mem_cons.mpr ⟨zmw_277, List.forall_mem_cons.mpr ⟨zmw_278, List.forall_mem_cons.mpr ⟨zmw_279, List.forall_mem_cons.mpr ⟨zmw_280, List.forall_mem_cons.mpr ⟨zmw_281, List.forall_mem_cons.mpr ⟨zmw_282, List.forall_mem_cons.mpr ⟨zmw_283, List.forall_mem_cons.mpr ⟨zmw_284, List.forall_mem_cons.mpr ⟨zmw_285, List.forall_mem_cons.mpr ⟨zmw_286, List.forall_mem_cons.mpr ⟨zmw_287, fun _ h => absurd h List.not_mem_nil⟩⟩⟩⟩⟩⟩⟩⟩⟩⟩⟩⟩⟩⟩⟩⟩
def zMsA_l18 : List (Nat × Nat × Nat) := [(11, 162, 17), (11, 165, 220), (11, 166, 111), (11, 168, 253), (11, 169, 115), (11, 172, 255), (11, 173, 118), (11, 175, 257), (11, 176, 120), (11, 178, 259), (11, 179, 122), (11, 181, 260), (11, 182, 124), (11, 185, 261), (11, 186, 126), (11, 188, 265)]
set_option maxRecDepth 100000 in
theorem zMsA_a18 : ∀ e ∈ zMsA_l18, Cond.methodLink (zOwnL.getD e.1 "") e.2.1 (zY e.2.2) ∈ lw_tbl ∧ 0 < e.2.2 ∧ e.2.2 < 335 := List.forall_mem_cons.mpr ⟨zmw_288, List.forall_mem_cons.mpr ⟨zmw_289, List.forall_mem_cons.mpr ⟨zmw_290, List.forall_mem_cons.mpr ⟨zmw_291, List.forall_mem_cons.mpr ⟨zmw_292, List.forall_mem_cons.mpr ⟨zmw_293, List.forall_mem_cons.mpr ⟨zmw_294, List.forall_mem_cons.mpr ⟨zmw_295, List.forall_mem_cons.mpr ⟨zmw_296, List.forall_mem_cons.mpr ⟨zmw_297, List.forall_mem_cons.mpr ⟨zmw_298, List.forall_mem_cons.mpr ⟨zmw_299, List.forall_mem_cons.mpr ⟨zmw_300, List.forall_mem_cons.mpr ⟨zmw_301, List.forall_mem_cons.mpr ⟨zmw_302, List.forall_mem_cons.mpr ⟨zmw_303, fun _ h => absurd h List.not_mem_nil⟩⟩⟩⟩⟩⟩⟩⟩⟩⟩⟩⟩⟩⟩⟩⟩
def zMsA_l19 : List (Nat × Nat × Nat) := [(11, 189, 18), (11, 192, 276), (11, 193, 128), (11, 195, 277), (11, 196, 130), (11, 198, 278), (11, 199, 36), (11, 202, 279), (11, 203, 132), (11, 205, 280), (11, 206, 37), (11, 209, 282), (11, 210, 134), (11, 212, 283), (11, 213, 136), (11, 215, 284)]
set_option maxRecDepth 100000 in
theorem zMsA_a19 : ∀ e ∈ zMsA_l19, Cond.methodLink (zOwnL.getD e.1 "") e.2.1 (zY e.2.2) ∈ lw_tbl ∧ 0 < e.2.2 ∧ e.2.2 < 335 := List.forall_mem_cons.mpr ⟨zmw_304, List.forall_mem_cons.mpr ⟨zmw_305, List.forall_mem_cons.mpr ⟨zmw_306, List.forall_mem_cons.mpr ⟨zmw_307, List.forall_mem_cons.mpr ⟨zmw_308, List.forall_mem_cons.mpr ⟨zmw_309, List.forall_mem_cons.mpr ⟨zmw_310, List.forall_mem_cons.mpr ⟨zmw_311, List.forall_mem_cons.mpr ⟨zmw_312, List.forall_mem_cons.mpr ⟨zmw_313, List.forall_mem_cons.mpr ⟨zmw_314, List.forall_mem_cons.mpr ⟨zmw_315, List.forall_mem_cons.mpr ⟨zmw_316, List.forall_mem_cons.mpr ⟨zmw_317, List.forall_mem_cons.mpr ⟨zmw_318, List.forall_mem_cons.mpr ⟨zmw_319, fun _ h => absurd h List.not_mem_nil⟩⟩⟩⟩⟩⟩⟩⟩⟩⟩⟩⟩⟩⟩⟩⟩
def zMsA_l20 : List (Nat × Nat × Nat) := [(11, 216, 138), (11, 218, 285), (11, 219, 152), (11, 221, 288), (11, 222, 155), (11, 225, 289), (11, 226, 158), (11, 228, 294), (11, 229, 160), (11, 232, 295), (11, 233, 162), (11, 235, 296), (11, 236, 168), (11, 238, 302), (11, 239, 170), (11, 241, 303)]
set_option maxRecDepth 100000 in
theorem zMsA_a20 : ∀ e ∈ zMsA_l20, Cond.methodLink (zOwnL.getD e.1 "") e.2.1 (zY e.2.2) ∈ lw_tbl ∧ 0 < e.2.2 ∧ e.2.2 < 335 := List.forall_mem_cons.mpr ⟨zmw_320, List.forall_mem_cons.mpr ⟨zmw_321, List.forall_mem_cons.mpr ⟨zmw_322, List.forall_mem_cons.mpr ⟨zmw_323, List.forall_mem_cons.mpr ⟨zmw_324, List.forall_mem_cons.mpr ⟨zmw_325, List.forall_mem_cons.mpr ⟨zmw_326, List.forall_mem_cons.mpr ⟨zmw_327, List.forall_mem_cons.mpr ⟨zmw_328, List.forall_mem_cons.mpr ⟨zmw_329, List.forall_mem_cons.mpr ⟨zmw_330, List.forall_mem_cons.mpr ⟨zmw_331, List.forall_mem_cons.mpr ⟨zmw_332, List.forall_mem_cons.mpr ⟨zmw_333, List.forall_mem_cons.mpr ⟨zmw_334, List.forall_mem_cons.mpr ⟨zmw_335, fun _ h => absurd h List.not_mem_nil⟩⟩⟩⟩⟩⟩⟩⟩⟩⟩⟩⟩⟩⟩⟩⟩
def zMsA_l21 : List (Nat × Nat × Nat) := [(11, 242, 172), (11, 244, 304), (11, 245, 175), (11, 247, 306), (11, 248, 177), (11, 250, 307), (11, 251, 182), (11, 253, 310), (11, 254, 185), (11, 256, 311), (11, 257, 187), (11, 259, 312), (11, 260, 193), (11, 262, 315), (11, 263, 196), (11, 265, 316)]
set_option maxRecDepth 100000 in
theorem zMsA_a21 : ∀ e ∈ zMsA_l21, Cond.methodLink (zOwnL.getD e.1 "") e.2.1 (zY e.2.2) ∈ lw_tbl ∧ 0 < e.2.2 ∧ e.2.2 < 335 := List.forall_mem_cons.mpr ⟨zmw_336, List.forall_mem_cons.mpr ⟨zmw_337, List.forall_mem_cons.mpr ⟨zmw_338, List.forall_mem_cons.mpr ⟨zmw_339, List.forall_mem_cons.mpr ⟨zmw_340, List.forall_mem_cons.mpr ⟨zmw_341, List.forall_mem_cons.mpr ⟨zmw_342, List.forall_mem_cons.mpr ⟨zmw_343, List.forall_mem_cons.mpr ⟨zmw_344, List.forall_mem_cons.mpr ⟨zmw_345, List.forall_mem_cons.mpr ⟨zmw_346, List.forall_mem_cons.mpr ⟨zmw_347, List.forall_mem_cons.mpr ⟨zmw_348, List.forall_mem_cons.mpr ⟨zmw_349, List.forall_mem_cons.mpr ⟨zmw_350, List.forall_mem_cons.mpr ⟨zmw_351, fun _ h => absurd h List.not_mem_nil⟩⟩⟩⟩⟩⟩⟩⟩⟩⟩⟩⟩⟩⟩⟩⟩
def zMsA_l22 : List (Nat × Nat × Nat) := [(11, 266, 42), (11, 269, 318), (11, 270, 47), (11, 273, 320), (11, 274, 198), (11, 276, 321), (11, 277, 202), (11, 279, 323), (11, 280, 204), (11, 282, 324), (11, 283, 208), (11, 285, 327), (11, 286, 211), (11, 288, 328), (11, 289, 49), (11, 292, 329)]
set_option maxRecDepth 100000 in
theorem zMsA_a22 : ∀ e ∈ zMsA_l22, Cond.methodLink (zOwnL.getD e.1 "") e.2.1 (zY e.2.2) ∈ lw_tbl ∧ 0 < e.2.2 ∧ e.2.2 < 335 := List.forall_mem_cons.mpr ⟨zmw_352, List.forall_mem_cons.mpr ⟨zmw_353, List.forall_mem_cons.mpr ⟨zmw_354, List.forall_mem_cons.mpr ⟨zmw_355, List.forall_mem_cons.mpr ⟨zmw_356, List.forall_mem_cons.mpr ⟨zmw_357, List.forall_mem_cons.mpr ⟨zmw_358, List.forall_mem_cons.mpr ⟨zmw_359, List.forall_mem_cons.mpr ⟨zmw_360, List.forall_mem_cons.mpr ⟨zmw_361, List.forall_mem_cons.mpr ⟨zmw_362, List.forall_mem_cons.mpr ⟨zmw_363, List.forall_mem_cons.mpr ⟨zmw_364, List.forall_mem_cons.mpr ⟨zmw_365, List.forall_mem_cons.mpr ⟨zmw_366, List.forall_mem_cons.mpr ⟨zmw_367, fun _ h => absurd h List.not_mem_nil⟩⟩⟩⟩⟩⟩⟩⟩⟩⟩⟩⟩⟩⟩⟩⟩
def zMsA_l23 : List (Nat × Nat × Nat) := [(11, 293, 53), (11, 296, 331), (11, 297, 55), (11, 300, 332), (11, 301, 56), (11, 304, 333), (11, 305, 57), (11, 308, 334)]
set_option maxRecDepth 100000 in
theorem zMsA_a23 : ∀ e ∈ zMsA_l23, Cond.methodLink (zOwnL.getD e.1 "") e.2.1 (zY e.2.2) ∈ lw_tbl ∧ 0 < e.2.2 ∧ e.2.2 < 335 := List.forall_mem_cons.mpr ⟨zmw_368, List.forall_mem_cons.mpr ⟨zmw_369, List.forall_mem_cons.mpr ⟨zmw_370, List.forall_mem_cons.mpr ⟨zmw_371, List.forall_mem_cons.mpr ⟨zmw_372, List.forall_mem_cons.mpr ⟨zmw_373, List.forall_mem_cons.mpr ⟨zmw_374, List.forall_mem_cons.mpr ⟨zmw_375, fun _ h => absurd h List.not_mem_nil⟩⟩⟩⟩⟩⟩⟩⟩
set_option maxRecDepth 100000 in
theorem zMsA_j23 : ∀ e ∈ zMsA_l23, Cond.methodLink (zOwnL.getD e.1 "") e.2.1 (zY e.2.2) ∈ lw_tbl ∧ 0 < e.2.2 ∧ e.2.2 < 335 := zMsA_a23
set_option maxRecDepth 100000 in
theorem zMsA_j22 : ∀ e ∈ zMsA_l22 ++ (zMsA_l23), Cond.methodLink (zOwnL.getD e.1 "") e.2.1 (zY e.2.2) ∈ lw_tbl ∧ 0 < e.2.2 ∧ e.2.2 < 335 := z_split rfl zMsA_a22 zMsA_j23
set_option maxRecDepth 100000 in
theorem zMsA_j21 : ∀ e ∈ zMsA_l21 ++ (zMsA_l22 ++ (zMsA_l23)), Cond.methodLink (zOwnL.getD e.1 "") e.2.1 (zY e.2.2) ∈ lw_tbl ∧ 0 < e.2.2 ∧ e.2.2 < 335 := z_split rfl zMsA_a21 zMsA_j22
set_option maxRecDepth 100000 in
theorem zMsA_j20 : ∀ e ∈ zMsA_l20 ++ (zMsA_l21 ++ (zMsA_l22 ++ (zMsA_l23))), Cond.methodLink (zOwnL.getD e.1 "") e.2.1 (zY e.2.2) ∈ lw_tbl ∧ 0 < e.2.2 ∧ e.2.2 < 335 := z_split rfl zMsA_a20 zMsA_j21
set_option maxRecDepth 100000 in
theorem zMsA_j19 : ∀ e ∈ zMsA_l19 ++ (zMsA_l20 ++ (zMsA_l21 ++ (zMsA_l22 ++ (zMsA_l23)))), Cond.methodLink (zOwnL.getD e.1 "") e.2.1 (zY e.2.2) ∈ lw_tbl ∧ 0 < e.2.2 ∧ e.2.2 < 335 := z_split rfl zMsA_a19 zMsA_j20
set_option maxRecDepth 100000 in
theorem zMsA_j18 : ∀ e ∈ zMsA_l18 ++ (zMsA_l19 ++ (zMsA_l20 ++ (zMsA_l21 ++ (zMsA_l22 ++ (zMsA_l23))))), Cond.methodLink (zOwnL.getD e.1 "") e.2.1 (zY e.2.2) ∈ lw_tbl ∧ 0 < e.2.2 ∧ e.2.2 < 335 := z_split rfl zMsA_a18 zMsA_j19
set_option maxRecDepth 100000 in
theorem zMsA_j17 : ∀ e ∈ zMsA_l17 ++ (zMsA_l18 ++ (zMsA_l19 ++ (zMsA_l20 ++ (zMsA_l21 ++ (zMsA_l22 ++ (zMsA_l23)))))), Cond.methodLink (zOwnL.getD e.1 "") e.2.1 (zY e.2.2) ∈ lw_tbl ∧ 0 < e.2.2 ∧ e.2.2 < 335 := z_split rfl zMsA_a17 zMsA_j18
set_option maxRecDepth 100000 in
theorem zMsA_j16 : ∀ e ∈ zMsA_l16 ++ (zMsA_l17 ++ (zMsA_l18 ++ (zMsA_l19 ++ (zMsA_l20 ++ (zMsA_l21 ++ (zMsA_l22 ++ (zMsA_l23))))))), Cond.methodLink (zOwnL.getD e.1 "") e.2.1 (zY e.2.2) ∈ lw_tbl ∧ 0 < e.2.2 ∧ e.2.2 < 335 := z_split rfl zMsA_a16 zMsA_j17
set_option maxRecDepth 100000 in
theorem zMsA_j15 : ∀ e ∈ zMsA_l15 ++ (zMsA_l16 ++ (zMsA_l17 ++ (zMsA_l18 ++ (zMsA_l19 ++ (zMsA_l20 ++ (zMsA_l21 ++ (zMsA_l22 ++ (zMsA_l23)))))))), Cond.methodLink (zOwnL.getD e.1 "") e.2.1 (zY e.2.2) ∈ lw_tbl ∧ 0 < e.2.2 ∧ e.2.2 < 335 := z_split rfl zMsA_a15 zMsA_j16
set_option maxRecDepth 100000 in
theorem zMsA_j14 : ∀ e ∈ zMsA_l14 ++ (zMsA_l15 ++ (zMsA_l16 ++ (zMsA_l17 ++ (zMsA_l18 ++ (zMsA_l19 ++ (zMsA_l20 ++ (zMsA_l21 ++ (zMsA_l22 ++ (zMsA_l23))))))))), Cond.methodLink (zOwnL.getD e.1 "") e.2.1 (zY e.2.2) ∈ lw_tbl ∧ 0 < e.2.2 ∧ e.2.2 < 335 := z_split rfl zMsA_a14 zMsA_j15
set_option maxRecDepth 100000 in
theorem zMsA_j13 : ∀ e ∈ zMsA_l13 ++ (zMsA_l14 ++ (zMsA_l15 ++ (zMsA_l16 ++ (zMsA_l17 ++ (zMsA_l18 ++ (zMsA_l19 ++ (zMsA_l20 ++ (zMsA_l21 ++ (zMsA_l22 ++ (zMsA_l23)))))))))), Cond.methodLink (zOwnL.getD e.1 "") e.2.1 (zY e.2.2) ∈ lw_tbl ∧ 0 < e.2.2 ∧ e.2.2 < 335 := z_split rfl zMsA_a13 zMsA_j14
set_option maxRecDepth 100000 in
theorem zMsA_j12 : ∀ e ∈ zMsA_l12 ++ (zMsA_l13 ++ (zMsA_l14 ++ (zMsA_l15 ++ (zMsA_l16 ++ (zMsA_l17 ++ (zMsA_l18 ++ (zMsA_l19 ++ (zMsA_l20 ++ (zMsA_l21 ++ (zMsA_l22 ++ (zMsA_l23))))))))))), Cond.methodLink (zOwnL.getD e.1 "") e.2.1 (zY e.2.2) ∈ lw_tbl ∧ 0 < e.2.2 ∧ e.2.2 < 335 := z_split rfl zMsA_a12 zMsA_j13
set_option maxRecDepth 100000 in
theorem zMsA_j11 : ∀ e ∈ zMsA_l11 ++ (zMsA_l12 ++ (zMsA_l13 ++ (zMsA_l14 ++ (zMsA_l15 ++ (zMsA_l16 ++ (zMsA_l17 ++ (zMsA_l18 ++ (zMsA_l19 ++ (zMsA_l20 ++ (zMsA_l21 ++ (zMsA_l22 ++ (zMsA_l23)))))))))))), Cond.methodLink (zOwnL.getD e.1 "") e.2.1 (zY e.2.2) ∈ lw_tbl ∧ 0 < e.2.2 ∧ e.2.2 < 335 := z_split rfl zMsA_a11 zMsA_j12
set_option maxRecDepth 100000 in
theorem zMsA_j10 : ∀ e ∈ zMsA_l10 ++ (zMsA_l11 ++ (zMsA_l12 ++ (zMsA_l13 ++ (zMsA_l14 ++ (zMsA_l15 ++ (zMsA_l16 ++ (zMsA_l17 ++ (zMsA_l18 ++ (zMsA_l19 ++ (zMsA_l20 ++ (zMsA_l21 ++ (zMsA_l22 ++ (zMsA_l23))))))))))))), Cond.methodLink (zOwnL.getD e.1 "") e.2.1 (zY e.2.2) ∈ lw_tbl ∧ 0 < e.2.2 ∧ e.2.2 < 335 := z_split rfl zMsA_a10 zMsA_j11
set_option maxRecDepth 100000 in
theorem zMsA_j9 : ∀ e ∈ zMsA_l9 ++ (zMsA_l10 ++ (zMsA_l11 ++ (zMsA_l12 ++ (zMsA_l13 ++ (zMsA_l14 ++ (zMsA_l15 ++ (zMsA_l16 ++ (zMsA_l17 ++ (zMsA_l18 ++ (zMsA_l19 ++ (zMsA_l20 ++ (zMsA_l21 ++ (zMsA_l22 ++ (zMsA_l23)))))))))))))), Cond.methodLink (zOwnL.getD e.1 "") e.2.1 (zY e.2.2) ∈ lw_tbl ∧ 0 < e.2.2 ∧ e.2.2 < 335 := z_split rfl zMsA_a9 zMsA_j10
set_option maxRecDepth 100000 in
theorem zMsA_j8 : ∀ e ∈ zMsA_l8 ++ (zMsA_l9 ++ (zMsA_l10 ++ (zMsA_l11 ++ (zMsA_l12 ++ (zMsA_l13 ++ (zMsA_l14 ++ (zMsA_l15 ++ (zMsA_l16 ++ (zMsA_l17 ++ (zMsA_l18 ++ (zMsA_l19 ++ (zMsA_l20 ++ (zMsA_l21 ++ (zMsA_l22 ++ (zMsA_l23))))))))))))))), Cond.methodLink (zOwnL.getD e.1 "") e.2.1 (zY e.2.2) ∈ lw_tbl ∧ 0 < e.2.2 ∧ e.2.2 < 335 := z_split rfl zMsA_a8 zMsA_j9
set_option maxRecDepth 100000 in
theorem zMsA_j7 : ∀ e ∈ zMsA_l7 ++ (zMsA_l8 ++ (zMsA_l9 ++ (zMsA_l10 ++ (zMsA_l11 ++ (zMsA_l12 ++ (zMsA_l13 ++ (zMsA_l14 ++ (zMsA_l15 ++ (zMsA_l16 ++ (zMsA_l17 ++ (zMsA_l18 ++ (zMsA_l19 ++ (zMsA_l20 ++ (zMsA_l21 ++ (zMsA_l22 ++ (zMsA_l23)))))))))))))))), Cond.methodLink (zOwnL.getD e.1 "") e.2.1 (zY e.2.2) ∈ lw_tbl ∧ 0 < e.2.2 ∧ e.2.2 < 335 := z_split rfl zMsA_a7 zMsA_j8
set_option maxRecDepth 100000 in
theorem zMsA_j6 : ∀ e ∈ zMsA_l6 ++ (zMsA_l7 ++ (zMsA_l8 ++ (zMsA_l9 ++ (zMsA_l10 ++ (zMsA_l11 ++ (zMsA_l12 ++ (zMsA_l13 ++ (zMsA_l14 ++ (zMsA_l15 ++ (zMsA_l16 ++ (zMsA_l17 ++ (zMsA_l18 ++ (zMsA_l19 ++ (zMsA_l20 ++ (zMsA_l21 ++ (zMsA_l22 ++ (zMsA_l23))))))))))))))))), Cond.methodLink (zOwnL.getD e.1 "") e.2.1 (zY e.2.2) ∈ lw_tbl ∧ 0 < e.2.2 ∧ e.2.2 < 335 := z_split rfl zMsA_a6 zMsA_j7
set_option maxRecDepth 100000 in
theorem zMsA_j5 : ∀ e ∈ zMsA_l5 ++ (zMsA_l6 ++ (zMsA_l7 ++ (zMsA_l8 ++ (zMsA_l9 ++ (zMsA_l10 ++ (zMsA_l11 ++ (zMsA_l12 ++ (zMsA_l13 ++ (zMsA_l14 ++ (zMsA_l15 ++ (zMsA_l16 ++ (zMsA_l17 ++ (zMsA_l18 ++ (zMsA_l19 ++ (zMsA_l20 ++ (zMsA_l21 ++ (zMsA_l22 ++ (zMsA_l23)))))))))))))))))), Cond.methodLink (zOwnL.getD e.1 "") e.2.1 (zY e.2.2) ∈ lw_tbl ∧ 0 < e.2.2 ∧ e.2.2 < 335 := z_split rfl zMsA_a5 zMsA_j6
set_option maxRecDepth 100000 in
theorem zMsA_j4 : ∀ e ∈ zMsA_l4 ++ (zMsA_l5 ++ (zMsA_l6 ++ (zMsA_l7 ++ (zMsA_l8 ++ (zMsA_l9 ++ (zMsA_l10 ++ (zMsA_l11 ++ (zMsA_l12 ++ (zMsA_l13 ++ (zMsA_l14 ++ (zMsA_l15 ++ (zMsA_l16 ++ (zMsA_l17 ++ (zMsA_l18 ++ (zMsA_l19 ++ (zMsA_l20 ++ (zMsA_l21 ++ (zMsA_l22 ++ (zMsA_l23))))))))))))))))))), Cond.methodLink (zOwnL.getD e.1 "") e.2.1 (zY e.2.2) ∈ lw_tbl ∧ 0 < e.2.2 ∧ e.2.2 < 335 := z_split rfl zMsA_a4 zMsA_j5
set_option maxRecDepth 100000 in
theorem zMsA_j3 : ∀ e ∈ zMsA_l3 ++ (zMsA_l4 ++ (zMsA_l5 ++ (zMsA_l6 ++ (zMsA_l7 ++ (zMsA_l8 ++ (zMsA_l9 ++ (zMsA_l10 ++ (zMsA_l11 ++ (zMsA_l12 ++ (zMsA_l13 ++ (zMsA_l14 ++ (zMsA_l15 ++ (zMsA_l16 ++ (zMsA_l17 ++ (zMsA_l18 ++ (zMsA_l19 ++ (zMsA_l20 ++ (zMsA_l21 ++ (zMsA_l22 ++ (zMsA_l23)))))))))))))))))))), Cond.methodLink (zOwnL.getD e.1 "") e.2.1 (zY e.2.2) ∈ lw_tbl ∧ 0 < e.2.2 ∧ e.2.2 < 335 := z_split rfl zMsA_a3 zMsA_j4
set_option maxRecDepth 100000 in
theorem zMsA_j2 : ∀ e ∈ zMsA_l2 ++ (zMsA_l3 ++ (zMsA_l4 ++ (zMsA_l5 ++ (zMsA_l6 ++ (zMsA_l7 ++ (zMsA_l8 ++ (zMsA_l9 ++ (zMsA_l10 ++ (zMsA_l11 ++ (zMsA_l12 ++ (zMsA_l13 ++ (zMsA_l14 ++ (zMsA_l15 ++ (zMsA_l16 ++ (zMsA_l17 ++ (zMsA_l18 ++ (zMsA_l19 ++ (zMsA_l20 ++ (zMsA_l21 ++ (zMsA_l22 ++ (zMsA_l23))))))))))))))))))))), Cond.methodLink (zOwnL.getD e.1 "") e.2.1 (zY e.2.2) ∈ lw_tbl ∧ 0 < e.2.2 ∧ e.2.2 < 335 := z_split rfl zMsA_a2 zMsA_j3
set_option maxRecDepth 100000 in
theorem zMsA_j1 : ∀ e ∈ zMsA_l1 ++ (zMsA_l2 ++ (zMsA_l3 ++ (zMsA_l4 ++ (zMsA_l5 ++ (zMsA_l6 ++ (zMsA_l7 ++ (zMsA_l8 ++ (zMsA_l9 ++ (zMsA_l10 ++ (zMsA_l11 ++ (zMsA_l12 ++ (zMsA_l13 ++ (zMsA_l14 ++ (zMsA_l15 ++ (zMsA_l16 ++ (zMsA_l17 ++ (zMsA_l18 ++ (zMsA_l19 ++ (zMsA_l20 ++ (zMsA_l21 ++ (zMsA_l22 ++ (zMsA_l23)))))))))))))))))))))), Cond.methodLink (zOwnL.getD e.1 "") e.2.1 (zY e.2.2) ∈ lw_tbl ∧ 0 < e.2.2 ∧ e.2.2 < 335 := z_split rfl zMsA_a1 zMsA_j2
set_option maxRecDepth 100000 in
theorem zMsA_j0 : ∀ e ∈ zMsA_l0 ++ (zMsA_l1 ++ (zMsA_l2 ++ (zMsA_l3 ++ (zMsA_l4 ++ (zMsA_l5 ++ (zMsA_l6 ++ (zMsA_l7 ++ (zMsA_l8 ++ (zMsA_l9 ++ (zMsA_l10 ++ (zMsA_l11 ++ (zMsA_l12 ++ (zMsA_l13 ++ (zMsA_l14 ++ (zMsA_l15 ++ (zMsA_l16 ++ (zMsA_l17 ++ (zMsA_l18 ++ (zMsA_l19 ++ (zMsA_l20 ++ (zMsA_l21 ++ (zMsA_l22 ++ (zMsA_l23))))))))))))))))))))))), Cond.methodLink (zOwnL.getD e.1 "") e.2.1 (zY e.2.2) ∈ lw_tbl ∧ 0 < e.2.2 ∧ e.2.2 < 335 := z_split rfl zMsA_a0 zMsA_j1
set_option maxRecDepth 100000 in
theorem zMs_eq : zMs = zMsA_l0 ++ (zMsA_l1 ++ (zMsA_l2 ++ (zMsA_l3 ++ (zMsA_l4 ++ (zMsA_l5 ++ (zMsA_l6 ++ (zMsA_l7 ++ (zMsA_l8 ++ (zMsA_l9 ++ (zMsA_l10 ++ (zMsA_l11 ++ (zMsA_l12 ++ (zMsA_l13 ++ (zMsA_l14 ++ (zMsA_l15 ++ (zMsA_l16 ++ (zMsA_l17 ++ (zMsA_l18 ++ (zMsA_l19 ++ (zMsA_l20 ++ (zMsA_l21 ++ (zMsA_l22 ++ (zMsA_l23))))))))))))))))))))))) := rfl
set_option maxRecDepth 100000 in
theorem zMs_in {e : Nat × Nat × Nat} (h : e ∈ zMs) : Cond.methodLink (zOwnL.getD e.1 "") e.2.1 (zY e.2.2) ∈ lw_tbl ∧ 0 < e.2.2 ∧ e.2.2 < 335 := zMsA_j0 e (zMs_eq ▸ h)
set_option maxRecDepth 100000 in
theorem zmn_0 : Cond.methodLinkNest (zOwnL.getD 9 "") 9 (zY 2) "RainWheel" ∈ lw_tbl ∧ 0 < 2 ∧ 2 < 335 := ⟨zch0 (List.mem_of_getElem? (i := 36) rfl), by decide, by decide⟩
set_option maxRecDepth 100000 in
theorem zmn_1 : Cond.methodLinkNest (zOwnL.getD 9 "") 18 (zY 3) "RainWheel" ∈ lw_tbl ∧ 0 < 3 ∧ 3 < 335 := ⟨zch0 (List.mem_of_getElem? (i := 67) rfl), by decide, by decide⟩
set_option maxRecDepth 100000 in
theorem zmn_2 : Cond.methodLinkNest (zOwnL.getD 9 "") 25 (zY 4) "RainWheel" ∈ lw_tbl ∧ 0 < 4 ∧ 4 < 335 := ⟨zch0 (List.mem_of_getElem? (i := 117) rfl), by decide, by decide⟩
set_option maxRecDepth 100000 in
theorem zmn_3 : Cond.methodLinkNest (zOwnL.getD 9 "") 32 (zY 5) "RainWheel" ∈ lw_tbl ∧ 0 < 5 ∧ 5 < 335 := ⟨zch0 (List.mem_of_getElem? (i := 161) rfl), by decide, by decide⟩
set_option maxRecDepth 100000 in
theorem zmn_4 : Cond.methodLinkNest (zOwnL.getD 9 "") 39 (zY 6) "RainWheel" ∈ lw_tbl ∧ 0 < 6 ∧ 6 < 335 := ⟨zch0 (List.mem_of_getElem? (i := 174) rfl), by decide, by decide⟩
set_option maxRecDepth 100000 in
theorem zmn_5 : Cond.methodLinkNest (zOwnL.getD 9 "") 66 (zY 12) "RainWheel" ∈ lw_tbl ∧ 0 < 12 ∧ 12 < 335 := ⟨zch1 (List.mem_of_getElem? (i := 38) rfl), by decide, by decide⟩
set_option maxRecDepth 100000 in
theorem zmn_6 : Cond.methodLinkNest (zOwnL.getD 9 "") 76 (zY 13) "RainWheel" ∈ lw_tbl ∧ 0 < 13 ∧ 13 < 335 := ⟨zch1 (List.mem_of_getElem? (i := 73) rfl), by decide, by decide⟩
def zMsNA_l0 : List (Nat × Nat × Nat) := [(9, 9, 2), (9, 18, 3), (9, 25, 4), (9, 32, 5), (9, 39, 6), (9, 66, 12), (9, 76, 13)]
set_option maxRecDepth 100000 in
theorem zMsNA_a0 : ∀ e ∈ zMsNA_l0, Cond.methodLinkNest (zOwnL.getD e.1 "") e.2.1 (zY e.2.2) "RainWheel" ∈ lw_tbl ∧ 0 < e.2.2 ∧ e.2.2 < 335 := List.forall_mem_cons.mpr ⟨zmn_0, List.forall_mem_cons.mpr ⟨zmn_1, List.forall_mem_cons.mpr ⟨zmn_2, List.forall_mem_cons.mpr ⟨zmn_3, List.forall_mem_cons.mpr ⟨zmn_4, List.forall_mem_cons.mpr ⟨zmn_5, List.forall_mem_cons.mpr ⟨zmn_6, fun _ h => absurd h List.not_mem_nil⟩⟩⟩⟩⟩⟩⟩
set_option maxRecDepth 100000 in
theorem zMsNA_j0 : ∀ e ∈ zMsNA_l0, Cond.methodLinkNest (zOwnL.getD e.1 "") e.2.1 (zY e.2.2) "RainWheel" ∈ lw_tbl ∧ 0 < e.2.2 ∧ e.2.2 < 335 := zMsNA_a0
set_option maxRecDepth 100000 in
theorem zMsN_in {e : Nat × Nat × Nat} (h : e ∈ zMsN) : Cond.methodLinkNest (zOwnL.getD e.1 "") e.2.1 (zY e.2.2) "RainWheel" ∈ lw_tbl ∧ 0 < e.2.2 ∧ e.2.2 < 335 := zMsNA_j0 e h
set_option maxRecDepth 100000 in
theorem zkw_0 : Cond.constant (zOwnL.getD 1 "") 100 (Int32.ofInt 1103515245) ∈ lw_tbl := zch1 (List.mem_of_getElem? (i := 236) rfl)
set_option maxRecDepth 100000 in
theorem zkw_1 : Cond.constant (zOwnL.getD 2 "") 11 (Int32.ofInt 2147483647) ∈ lw_tbl := zch5 (List.mem_of_getElem? (i := 51) rfl)
set_option maxRecDepth 100000 in
theorem zkw_2 : Cond.constant (zOwnL.getD 2 "") 45 (Int32.ofInt 999999) ∈ lw_tbl := zch5 (List.mem_of_getElem? (i := 73) rfl)
set_option maxRecDepth 100000 in
theorem zkw_3 : Cond.constant (zOwnL.getD 2 "") 46 (Int32.ofInt 99999) ∈ lw_tbl := zch5 (List.mem_of_getElem? (i := 74) rfl)
set_option maxRecDepth 100000 in
theorem zkw_4 : Cond.constant (zOwnL.getD 5 "") 47 (Int32.ofInt 2147483647) ∈ lw_tbl := zch5 (List.mem_of_getElem? (i := 103) rfl)
set_option maxRecDepth 100000 in
theorem zkw_5 : Cond.constant (zOwnL.getD 9 "") 259 (Int32.ofInt 2147483647) ∈ lw_tbl := zch4 (List.mem_of_getElem? (i := 221) rfl)
set_option maxRecDepth 100000 in
theorem zkw_6 : Cond.constant (zOwnL.getD 10 "") 425 (Int32.ofInt 1000000) ∈ lw_tbl := zch7 (List.mem_of_getElem? (i := 236) rfl)
set_option maxRecDepth 100000 in
theorem zkw_7 : Cond.constant (zOwnL.getD 10 "") 478 (Int32.ofInt 999999) ∈ lw_tbl := zch8 (List.mem_of_getElem? (i := 91) rfl)
set_option maxRecDepth 100000 in
theorem zkw_8 : Cond.constant (zOwnL.getD 10 "") 481 (Int32.ofInt 2147483647) ∈ lw_tbl := zch8 (List.mem_of_getElem? (i := 108) rfl)
set_option maxRecDepth 100000 in
theorem zkw_9 : Cond.constant (zOwnL.getD 10 "") 498 (Int32.ofInt 1103515245) ∈ lw_tbl := zch7 (List.mem_of_getElem? (i := 187) rfl)
set_option maxRecDepth 100000 in
theorem zkw_10 : Cond.constant (zOwnL.getD 12 "") 265 (Int32.ofInt 1431655765) ∈ lw_tbl := zch1 (List.mem_of_getElem? (i := 185) rfl)
set_option maxRecDepth 100000 in
theorem zkw_11 : Cond.constant (zOwnL.getD 12 "") 266 (Int32.ofInt 858993459) ∈ lw_tbl := zch1 (List.mem_of_getElem? (i := 186) rfl)
set_option maxRecDepth 100000 in
theorem zkw_12 : Cond.constant (zOwnL.getD 12 "") 267 (Int32.ofInt 252645135) ∈ lw_tbl := zch1 (List.mem_of_getElem? (i := 187) rfl)
def zKsA_l0 : List (Nat × Nat × Int) := [(1, 100, 1103515245), (2, 11, 2147483647), (2, 45, 999999), (2, 46, 99999), (5, 47, 2147483647), (9, 259, 2147483647), (10, 425, 1000000), (10, 478, 999999), (10, 481, 2147483647), (10, 498, 1103515245), (12, 265, 1431655765), (12, 266, 858993459), (12, 267, 252645135)]
set_option maxRecDepth 100000 in
theorem zKsA_a0 : ∀ e ∈ zKsA_l0, Cond.constant (zOwnL.getD e.1 "") e.2.1 (Int32.ofInt e.2.2) ∈ lw_tbl := List.forall_mem_cons.mpr ⟨zkw_0, List.forall_mem_cons.mpr ⟨zkw_1, List.forall_mem_cons.mpr ⟨zkw_2, List.forall_mem_cons.mpr ⟨zkw_3, List.forall_mem_cons.mpr ⟨zkw_4, List.forall_mem_cons.mpr ⟨zkw_5, List.forall_mem_cons.mpr ⟨zkw_6, List.forall_mem_cons.mpr ⟨zkw_7, List.forall_mem_cons.mpr ⟨zkw_8, List.forall_mem_cons.mpr ⟨zkw_9, List.forall_mem_cons.mpr ⟨zkw_10, List.forall_mem_cons.mpr ⟨zkw_11, List.forall_mem_cons.mpr ⟨zkw_12, fun _ h => absurd h List.not_mem_nil⟩⟩⟩⟩⟩⟩⟩⟩⟩⟩⟩⟩⟩
set_option maxRecDepth 100000 in
theorem zKsA_j0 : ∀ e ∈ zKsA_l0, Cond.constant (zOwnL.getD e.1 "") e.2.1 (Int32.ofInt e.2.2) ∈ lw_tbl := zKsA_a0
set_option maxRecDepth 100000 in
theorem zKs_in {e : Nat × Nat × Int} (h : e ∈ zKs) : Cond.constant (zOwnL.getD e.1 "") e.2.1 (Int32.ofInt e.2.2) ∈ lw_tbl := zKsA_j0 e h
set_option maxRecDepth 100000 in
theorem zjw_0 : Cond.constantLong (zOwnL.getD 9 "") 276 (Int64.ofInt 2) ∈ lw_tbl := zch5 (List.mem_of_getElem? (i := 12) rfl)
set_option maxRecDepth 100000 in
theorem zjw_1 : Cond.constantLong (zOwnL.getD 9 "") 284 (Int64.ofInt 9223372036854775807) ∈ lw_tbl := zch5 (List.mem_of_getElem? (i := 39) rfl)
set_option maxRecDepth 100000 in
theorem zjw_2 : Cond.constantLong (zOwnL.getD 9 "") 286 (Int64.ofInt 16) ∈ lw_tbl := zch5 (List.mem_of_getElem? (i := 31) rfl)
set_option maxRecDepth 100000 in
theorem zjw_3 : Cond.constantLong (zOwnL.getD 10 "") 451 (Int64.ofInt 16) ∈ lw_tbl := zch8 (List.mem_of_getElem? (i := 39) rfl)
set_option maxRecDepth 100000 in
theorem zjw_4 : Cond.constantLong (zOwnL.getD 10 "") 460 (Int64.ofInt 2) ∈ lw_tbl := zch8 (List.mem_of_getElem? (i := 58) rfl)
def zJsA_l0 : List (Nat × Nat × Int) := [(9, 276, 2), (9, 284, 9223372036854775807), (9, 286, 16), (10, 451, 16), (10, 460, 2)]
set_option maxRecDepth 100000 in
theorem zJsA_a0 : ∀ e ∈ zJsA_l0, Cond.constantLong (zOwnL.getD e.1 "") e.2.1 (Int64.ofInt e.2.2) ∈ lw_tbl := List.forall_mem_cons.mpr ⟨zjw_0, List.forall_mem_cons.mpr ⟨zjw_1, List.forall_mem_cons.mpr ⟨zjw_2, List.forall_mem_cons.mpr ⟨zjw_3, List.forall_mem_cons.mpr ⟨zjw_4, fun _ h => absurd h List.not_mem_nil⟩⟩⟩⟩⟩
set_option maxRecDepth 100000 in
theorem zJsA_j0 : ∀ e ∈ zJsA_l0, Cond.constantLong (zOwnL.getD e.1 "") e.2.1 (Int64.ofInt e.2.2) ∈ lw_tbl := zJsA_a0
set_option maxRecDepth 100000 in
theorem zJs_in {e : Nat × Nat × Int} (h : e ∈ zJs) : Cond.constantLong (zOwnL.getD e.1 "") e.2.1 (Int64.ofInt e.2.2) ∈ lw_tbl := zJsA_j0 e h
def zExc (k : Nat) : String := match k with
  | 0 => "java/util/NoSuchElementException"
  | 1 => "java/lang/IllegalArgumentException"
  | _ => "java/lang/IllegalStateException"
def zEw (e : Nat × Nat × Nat × Nat) : Cond := match e.1 with
  | 25 => .classLink (zOwnL.getD e.2.1 "") e.2.2.1 (zT3 e.2.2.2).1
  | 27 => .classLink (zOwnL.getD e.2.1 "") e.2.2.1 "RainWheel$Plan"
  | 28 => .classLink (zOwnL.getD e.2.1 "") e.2.2.1 "[[I"
  | 30 => .methodLink (zOwnL.getD e.2.1 "") e.2.2.1 Lib.objectInit
  | 31 => .fieldLinkNest (zOwnL.getD e.2.1 "") e.2.2.1 "RainWheel" "MOST_OF_KIND" "[I" "RainWheel"
  | 34 => .classLink (zOwnL.getD e.2.1 "") e.2.2.1 (zExc e.2.2.2)
  | 35 => .methodLink (zOwnL.getD e.2.1 "") e.2.2.1 ⟨"java/lang/Math", (match e.2.2.2 with | 0 => "max" | 1 => "min" | _ => "abs"), (match e.2.2.2 with | 2 => "(I)I" | _ => "(II)I")⟩
  | 36 => .methodLink (zOwnL.getD e.2.1 "") e.2.2.1 ⟨"java/lang/System", "arraycopy", "(Ljava/lang/Object;ILjava/lang/Object;II)V"⟩
  | 37 => .methodLink (zOwnL.getD e.2.1 "") e.2.2.1 ⟨"java/lang/String", "length", "()I"⟩
  | 38 => .methodLink (zOwnL.getD e.2.1 "") e.2.2.1 ⟨"java/lang/String", "charAt", "(I)C"⟩
  | _ => .initialized "RainWheel"
set_option maxRecDepth 100000 in
theorem zew_0 : zEw (25, 9, 7, 8) ∈ lw_tbl ∧ (25 = 25 → 8 < 11) := ⟨zch0 (List.mem_of_getElem? (i := 34) rfl), by decide⟩
set_option maxRecDepth 100000 in
theorem zew_1 : zEw (25, 9, 16, 1) ∈ lw_tbl ∧ (25 = 25 → 1 < 11) := ⟨zch0 (List.mem_of_getElem? (i := 65) rfl), by decide⟩
set_option maxRecDepth 100000 in
theorem zew_2 : zEw (25, 9, 23, 7) ∈ lw_tbl ∧ (25 = 25 → 7 < 11) := ⟨zch0 (List.mem_of_getElem? (i := 115) rfl), by decide⟩
set_option maxRecDepth 100000 in
theorem zew_3 : zEw (25, 9, 30, 5) ∈ lw_tbl ∧ (25 = 25 → 5 < 11) := ⟨zch0 (List.mem_of_getElem? (i := 159) rfl), by decide⟩
set_option maxRecDepth 100000 in
theorem zew_4 : zEw (25, 9, 37, 2) ∈ lw_tbl ∧ (25 = 25 → 2 < 11) := ⟨zch0 (List.mem_of_getElem? (i := 172) rfl), by decide⟩
set_option maxRecDepth 100000 in
theorem zew_5 : zEw (25, 9, 44, 6) ∈ lw_tbl ∧ (25 = 25 → 6 < 11) := ⟨zch0 (List.mem_of_getElem? (i := 187) rfl), by decide⟩
set_option maxRecDepth 100000 in
theorem zew_6 : zEw (25, 9, 54, 3) ∈ lw_tbl ∧ (25 = 25 → 3 < 11) := ⟨zch1 (List.mem_of_getElem? (i := 13) rfl), by decide⟩
set_option maxRecDepth 100000 in
theorem zew_7 : zEw (25, 9, 64, 4) ∈ lw_tbl ∧ (25 = 25 → 4 < 11) := ⟨zch1 (List.mem_of_getElem? (i := 36) rfl), by decide⟩
set_option maxRecDepth 100000 in
theorem zew_8 : zEw (25, 9, 74, 0) ∈ lw_tbl ∧ (25 = 25 → 0 < 11) := ⟨zch1 (List.mem_of_getElem? (i := 71) rfl), by decide⟩
set_option maxRecDepth 100000 in
theorem zew_9 : zEw (25, 11, 8, 9) ∈ lw_tbl ∧ (25 = 25 → 9 < 11) := ⟨zch0 (List.mem_of_getElem? (i := 26) rfl), by decide⟩
set_option maxRecDepth 100000 in
theorem zew_10 : zEw (25, 11, 135, 10) ∈ lw_tbl ∧ (25 = 25 → 10 < 11) := ⟨zch5 (List.mem_of_getElem? (i := 190) rfl), by decide⟩
set_option maxRecDepth 100000 in
theorem zew_11 : zEw (27, 9, 64, 0) ∈ lw_tbl ∧ (27 = 25 → 0 < 11) := ⟨zch1 (List.mem_of_getElem? (i := 36) rfl), by decide⟩
set_option maxRecDepth 100000 in
theorem zew_12 : zEw (28, 6, 33, 0) ∈ lw_tbl ∧ (28 = 25 → 0 < 11) := ⟨zch0 (List.mem_of_getElem? (i := 195) rfl), by decide⟩
set_option maxRecDepth 100000 in
theorem zew_13 : zEw (28, 7, 24, 0) ∈ lw_tbl ∧ (28 = 25 → 0 < 11) := ⟨zch0 (List.mem_of_getElem? (i := 121) rfl), by decide⟩
set_option maxRecDepth 100000 in
theorem zew_14 : zEw (30, 0, 3, 0) ∈ lw_tbl ∧ (30 = 25 → 0 < 11) := ⟨zch1 (List.mem_of_getElem? (i := 76) rfl), by decide⟩
set_option maxRecDepth 100000 in
theorem zew_15 : zEw (30, 1, 3, 0) ∈ lw_tbl ∧ (30 = 25 → 0 < 11) := ⟨zch0 (List.mem_of_getElem? (i := 70) rfl), by decide⟩
set_option maxRecDepth 100000 in
theorem zew_16 : zEw (30, 2, 3, 0) ∈ lw_tbl ∧ (30 = 25 → 0 < 11) := ⟨zch0 (List.mem_of_getElem? (i := 177) rfl), by decide⟩
set_option maxRecDepth 100000 in
theorem zew_17 : zEw (30, 3, 3, 0) ∈ lw_tbl ∧ (30 = 25 → 0 < 11) := ⟨zch1 (List.mem_of_getElem? (i := 18) rfl), by decide⟩
set_option maxRecDepth 100000 in
theorem zew_18 : zEw (30, 4, 3, 0) ∈ lw_tbl ∧ (30 = 25 → 0 < 11) := ⟨zch1 (List.mem_of_getElem? (i := 41) rfl), by decide⟩
set_option maxRecDepth 100000 in
theorem zew_19 : zEw (30, 5, 3, 0) ∈ lw_tbl ∧ (30 = 25 → 0 < 11) := ⟨zch0 (List.mem_of_getElem? (i := 164) rfl), by decide⟩
set_option maxRecDepth 100000 in
theorem zew_20 : zEw (30, 6, 3, 0) ∈ lw_tbl ∧ (30 = 25 → 0 < 11) := ⟨zch0 (List.mem_of_getElem? (i := 192) rfl), by decide⟩
set_option maxRecDepth 100000 in
theorem zew_21 : zEw (30, 7, 3, 0) ∈ lw_tbl ∧ (30 = 25 → 0 < 11) := ⟨zch0 (List.mem_of_getElem? (i := 120) rfl), by decide⟩
set_option maxRecDepth 100000 in
theorem zew_22 : zEw (30, 8, 3, 0) ∈ lw_tbl ∧ (30 = 25 → 0 < 11) := ⟨zch0 (List.mem_of_getElem? (i := 39) rfl), by decide⟩
set_option maxRecDepth 100000 in
theorem zew_23 : zEw (30, 9, 1, 0) ∈ lw_tbl ∧ (30 = 25 → 0 < 11) := ⟨zch0 (List.mem_of_getElem? (i := 31) rfl), by decide⟩
set_option maxRecDepth 100000 in
theorem zew_24 : zEw (30, 10, 11, 0) ∈ lw_tbl ∧ (30 = 25 → 0 < 11) := ⟨zch5 (List.mem_of_getElem? (i := 195) rfl), by decide⟩
set_option maxRecDepth 100000 in
theorem zew_25 : zEw (31, 6, 9, 0) ∈ lw_tbl ∧ (31 = 25 → 0 < 11) := ⟨zch0 (List.mem_of_getElem? (i := 193) rfl), by decide⟩
set_option maxRecDepth 100000 in
theorem zew_26 : zEw (34, 9, 362, 0) ∈ lw_tbl ∧ (34 = 25 → 0 < 11) := ⟨zch4 (List.mem_of_getElem? (i := 15) rfl), by decide⟩
set_option maxRecDepth 100000 in
theorem zew_27 : zEw (34, 9, 369, 1) ∈ lw_tbl ∧ (34 = 25 → 1 < 11) := ⟨zch2 (List.mem_of_getElem? (i := 118) rfl), by decide⟩
set_option maxRecDepth 100000 in
theorem zew_28 : zEw (34, 9, 374, 2) ∈ lw_tbl ∧ (34 = 25 → 2 < 11) := ⟨zch4 (List.mem_of_getElem? (i := 115) rfl), by decide⟩
set_option maxRecDepth 100000 in
theorem zew_29 : zEw (35, 0, 75, 0) ∈ lw_tbl ∧ (35 = 25 → 0 < 11) := ⟨zch2 (List.mem_of_getElem? (i := 57) rfl), by decide⟩
set_option maxRecDepth 100000 in
theorem zew_30 : zEw (35, 1, 76, 0) ∈ lw_tbl ∧ (35 = 25 → 0 < 11) := ⟨zch1 (List.mem_of_getElem? (i := 237) rfl), by decide⟩
set_option maxRecDepth 100000 in
theorem zew_31 : zEw (35, 2, 33, 2) ∈ lw_tbl ∧ (35 = 25 → 2 < 11) := ⟨zch5 (List.mem_of_getElem? (i := 60) rfl), by decide⟩
set_option maxRecDepth 100000 in
theorem zew_32 : zEw (35, 2, 38, 1) ∈ lw_tbl ∧ (35 = 25 → 1 < 11) := ⟨zch5 (List.mem_of_getElem? (i := 61) rfl), by decide⟩
set_option maxRecDepth 100000 in
theorem zew_33 : zEw (35, 2, 42, 0) ∈ lw_tbl ∧ (35 = 25 → 0 < 11) := ⟨zch5 (List.mem_of_getElem? (i := 62) rfl), by decide⟩
set_option maxRecDepth 100000 in
theorem zew_34 : zEw (35, 3, 116, 1) ∈ lw_tbl ∧ (35 = 25 → 1 < 11) := ⟨zch1 (List.mem_of_getElem? (i := 230) rfl), by decide⟩
set_option maxRecDepth 100000 in
theorem zew_35 : zEw (35, 3, 121, 0) ∈ lw_tbl ∧ (35 = 25 → 0 < 11) := ⟨zch1 (List.mem_of_getElem? (i := 231) rfl), by decide⟩
set_option maxRecDepth 100000 in
theorem zew_36 : zEw (35, 5, 48, 1) ∈ lw_tbl ∧ (35 = 25 → 1 < 11) := ⟨zch5 (List.mem_of_getElem? (i := 104) rfl), by decide⟩
set_option maxRecDepth 100000 in
theorem zew_37 : zEw (35, 6, 149, 0) ∈ lw_tbl ∧ (35 = 25 → 0 < 11) := ⟨zch1 (List.mem_of_getElem? (i := 196) rfl), by decide⟩
set_option maxRecDepth 100000 in
theorem zew_38 : zEw (35, 6, 154, 1) ∈ lw_tbl ∧ (35 = 25 → 1 < 11) := ⟨zch1 (List.mem_of_getElem? (i := 215) rfl), by decide⟩
set_option maxRecDepth 100000 in
theorem zew_39 : zEw (35, 7, 107, 0) ∈ lw_tbl ∧ (35 = 25 → 0 < 11) := ⟨zch4 (List.mem_of_getElem? (i := 176) rfl), by decide⟩
set_option maxRecDepth 100000 in
theorem zew_40 : zEw (35, 9, 260, 2) ∈ lw_tbl ∧ (35 = 25 → 2 < 11) := ⟨zch4 (List.mem_of_getElem? (i := 222) rfl), by decide⟩
set_option maxRecDepth 100000 in
theorem zew_41 : zEw (35, 9, 333, 1) ∈ lw_tbl ∧ (35 = 25 → 1 < 11) := ⟨zch2 (List.mem_of_getElem? (i := 109) rfl), by decide⟩
set_option maxRecDepth 100000 in
theorem zew_42 : zEw (35, 9, 336, 0) ∈ lw_tbl ∧ (35 = 25 → 0 < 11) := ⟨zch5 (List.mem_of_getElem? (i := 148) rfl), by decide⟩
set_option maxRecDepth 100000 in
theorem zew_43 : zEw (36, 4, 34, 0) ∈ lw_tbl ∧ (36 = 25 → 0 < 11) := ⟨zch2 (List.mem_of_getElem? (i := 82) rfl), by decide⟩
set_option maxRecDepth 100000 in
theorem zew_44 : zEw (36, 5, 26, 0) ∈ lw_tbl ∧ (36 = 25 → 0 < 11) := ⟨zch5 (List.mem_of_getElem? (i := 98) rfl), by decide⟩
set_option maxRecDepth 100000 in
theorem zew_45 : zEw (37, 8, 46, 0) ∈ lw_tbl ∧ (37 = 25 → 0 < 11) := ⟨zch2 (List.mem_of_getElem? (i := 217) rfl), by decide⟩
set_option maxRecDepth 100000 in
theorem zew_46 : zEw (37, 10, 173, 0) ∈ lw_tbl ∧ (37 = 25 → 0 < 11) := ⟨zch6 (List.mem_of_getElem? (i := 235) rfl), by decide⟩
set_option maxRecDepth 100000 in
theorem zew_47 : zEw (38, 8, 51, 0) ∈ lw_tbl ∧ (38 = 25 → 0 < 11) := ⟨zch2 (List.mem_of_getElem? (i := 227) rfl), by decide⟩
set_option maxRecDepth 100000 in
theorem zew_48 : zEw (38, 10, 178, 0) ∈ lw_tbl ∧ (38 = 25 → 0 < 11) := ⟨zch6 (List.mem_of_getElem? (i := 236) rfl), by decide⟩
set_option maxRecDepth 100000 in
theorem zew_49 : zEw (39, 9, 366, 0) ∈ lw_tbl ∧ (39 = 25 → 0 < 11) := ⟨zch0 (List.mem_of_getElem? (i := 1) rfl), by decide⟩
set_option maxRecDepth 100000 in
theorem zew_50 : zEw (39, 9, 373, 0) ∈ lw_tbl ∧ (39 = 25 → 0 < 11) := ⟨zch0 (List.mem_of_getElem? (i := 1) rfl), by decide⟩
set_option maxRecDepth 100000 in
theorem zew_51 : zEw (39, 9, 378, 0) ∈ lw_tbl ∧ (39 = 25 → 0 < 11) := ⟨zch0 (List.mem_of_getElem? (i := 1) rfl), by decide⟩
def zEsA_l0 : List (Nat × Nat × Nat × Nat) := [(25, 9, 7, 8), (25, 9, 16, 1), (25, 9, 23, 7), (25, 9, 30, 5), (25, 9, 37, 2), (25, 9, 44, 6), (25, 9, 54, 3), (25, 9, 64, 4), (25, 9, 74, 0), (25, 11, 8, 9), (25, 11, 135, 10), (27, 9, 64, 0), (28, 6, 33, 0), (28, 7, 24, 0), (30, 0, 3, 0), (30, 1, 3, 0)]
set_option maxRecDepth 100000 in
theorem zEsA_a0 : ∀ e ∈ zEsA_l0, zEw e ∈ lw_tbl ∧ (e.1 = 25 → e.2.2.2 < 11) := List.forall_mem_cons.mpr ⟨zew_0, List.forall_mem_cons.mpr ⟨zew_1, List.forall_mem_cons.mpr ⟨zew_2, List.forall_mem_cons.mpr ⟨zew_3, List.forall_mem_cons.mpr ⟨zew_4, List.forall_mem_cons.mpr ⟨zew_5, List.forall_mem_cons.mpr ⟨zew_6, List.forall_mem_cons.mpr ⟨zew_7, List.forall_mem_cons.mpr ⟨zew_8, List.forall_mem_cons.mpr ⟨zew_9, List.forall_mem_cons.mpr ⟨zew_10, List.forall_mem_cons.mpr ⟨zew_11, List.forall_mem_cons.mpr ⟨zew_12, List.forall_mem_cons.mpr ⟨zew_13, List.forall_mem_cons.mpr ⟨zew_14, List.forall_mem_cons.mpr ⟨zew_15, fun _ h => absurd h List.not_mem_nil⟩⟩⟩⟩⟩⟩⟩⟩⟩⟩⟩⟩⟩⟩⟩⟩
def zEsA_l1 : List (Nat × Nat × Nat × Nat) := [(30, 2, 3, 0), (30, 3, 3, 0), (30, 4, 3, 0), (30, 5, 3, 0), (30, 6, 3, 0), (30, 7, 3, 0), (30, 8, 3, 0), (30, 9, 1, 0), (30, 10, 11, 0), (31, 6, 9, 0), (34, 9, 362, 0), (34, 9, 369, 1), (34, 9, 374, 2), (35, 0, 75, 0), (35, 1, 76, 0), (35, 2, 33, 2)]
set_option maxRecDepth 100000 in
theorem zEsA_a1 : ∀ e ∈ zEsA_l1, zEw e ∈ lw_tbl ∧ (e.1 = 25 → e.2.2.2 < 11) := List.forall_mem_cons.mpr ⟨zew_16, List.forall_mem_cons.mpr ⟨zew_17, List.forall_mem_cons.mpr ⟨zew_18, List.forall_mem_cons.mpr ⟨zew_19, List.forall_mem_cons.mpr ⟨zew_20, List.forall_mem_cons.mpr ⟨zew_21, List.forall_mem_cons.mpr ⟨zew_22, List.forall_mem_cons.mpr ⟨zew_23, List.forall_mem_cons.mpr ⟨zew_24, List.forall_mem_cons.mpr ⟨zew_25, List.forall_mem_cons.mpr ⟨zew_26, List.forall_mem_cons.mpr ⟨zew_27, List.forall_mem_cons.mpr ⟨zew_28, List.forall_mem_cons.mpr ⟨zew_29, List.forall_mem_cons.mpr ⟨zew_30, List.forall_mem_cons.mpr ⟨zew_31, fun _ h => absurd h List.not_mem_nil⟩⟩⟩⟩⟩⟩⟩⟩⟩⟩⟩⟩⟩⟩⟩⟩
def zEsA_l2 : List (Nat × Nat × Nat × Nat) := [(35, 2, 38, 1), (35, 2, 42, 0), (35, 3, 116, 1), (35, 3, 121, 0), (35, 5, 48, 1), (35, 6, 149, 0), (35, 6, 154, 1), (35, 7, 107, 0), (35, 9, 260, 2), (35, 9, 333, 1), (35, 9, 336, 0), (36, 4, 34, 0), (36, 5, 26, 0), (37, 8, 46, 0), (37, 10, 173, 0), (38, 8, 51, 0)]
set_option maxRecDepth 100000 in
theorem zEsA_a2 : ∀ e ∈ zEsA_l2, zEw e ∈ lw_tbl ∧ (e.1 = 25 → e.2.2.2 < 11) := List.forall_mem_cons.mpr ⟨zew_32, List.forall_mem_cons.mpr ⟨zew_33, List.forall_mem_cons.mpr ⟨zew_34, List.forall_mem_cons.mpr ⟨zew_35, List.forall_mem_cons.mpr ⟨zew_36, List.forall_mem_cons.mpr ⟨zew_37, List.forall_mem_cons.mpr ⟨zew_38, List.forall_mem_cons.mpr ⟨zew_39, List.forall_mem_cons.mpr ⟨zew_40, List.forall_mem_cons.mpr ⟨zew_41, List.forall_mem_cons.mpr ⟨zew_42, List.forall_mem_cons.mpr ⟨zew_43, List.forall_mem_cons.mpr ⟨zew_44, List.forall_mem_cons.mpr ⟨zew_45, List.forall_mem_cons.mpr ⟨zew_46, List.forall_mem_cons.mpr ⟨zew_47, fun _ h => absurd h List.not_mem_nil⟩⟩⟩⟩⟩⟩⟩⟩⟩⟩⟩⟩⟩⟩⟩⟩
def zEsA_l3 : List (Nat × Nat × Nat × Nat) := [(38, 10, 178, 0), (39, 9, 366, 0), (39, 9, 373, 0), (39, 9, 378, 0)]
set_option maxRecDepth 100000 in
theorem zEsA_a3 : ∀ e ∈ zEsA_l3, zEw e ∈ lw_tbl ∧ (e.1 = 25 → e.2.2.2 < 11) := List.forall_mem_cons.mpr ⟨zew_48, List.forall_mem_cons.mpr ⟨zew_49, List.forall_mem_cons.mpr ⟨zew_50, List.forall_mem_cons.mpr ⟨zew_51, fun _ h => absurd h List.not_mem_nil⟩⟩⟩⟩
set_option maxRecDepth 100000 in
theorem zEsA_j3 : ∀ e ∈ zEsA_l3, zEw e ∈ lw_tbl ∧ (e.1 = 25 → e.2.2.2 < 11) := zEsA_a3
set_option maxRecDepth 100000 in
theorem zEsA_j2 : ∀ e ∈ zEsA_l2 ++ (zEsA_l3), zEw e ∈ lw_tbl ∧ (e.1 = 25 → e.2.2.2 < 11) := z_split rfl zEsA_a2 zEsA_j3
set_option maxRecDepth 100000 in
theorem zEsA_j1 : ∀ e ∈ zEsA_l1 ++ (zEsA_l2 ++ (zEsA_l3)), zEw e ∈ lw_tbl ∧ (e.1 = 25 → e.2.2.2 < 11) := z_split rfl zEsA_a1 zEsA_j2
set_option maxRecDepth 100000 in
theorem zEsA_j0 : ∀ e ∈ zEsA_l0 ++ (zEsA_l1 ++ (zEsA_l2 ++ (zEsA_l3))), zEw e ∈ lw_tbl ∧ (e.1 = 25 → e.2.2.2 < 11) := z_split rfl zEsA_a0 zEsA_j1
set_option maxRecDepth 100000 in
theorem zEs_eq : zEs = zEsA_l0 ++ (zEsA_l1 ++ (zEsA_l2 ++ (zEsA_l3))) := rfl
set_option maxRecDepth 100000 in
theorem zEs_in {e : Nat × Nat × Nat × Nat} (h : e ∈ zEs) : zEw e ∈ lw_tbl ∧ (e.1 = 25 → e.2.2.2 < 11) := zEsA_j0 e (zEs_eq ▸ h)
