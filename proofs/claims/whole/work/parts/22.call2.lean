/-- a place in a method with handlers: the row that takes an exception, those ahead of it, its first instruction -/
def zHok (μ pc E p' k : Nat) : Prop := ∃ (pre : List ExceptionTableEntry) (x : ExceptionTableEntry) (suf : List ExceptionTableEntry), tableOf (zTab μ) = pre ++ x :: suf ∧ (∀ z ∈ pre, covers z pc = false ∨ (z.catchType ≠ 0 ∧ ∃ nm : String, Cond.classLink (zOwnL.getD (zMof μ).1 "") z.catchType nm ∈ zGd ∧ (zExc E, nm) ∈ zNcL)) ∧ covers x pc = true ∧ x.catchType ≠ 0 ∧ Cond.classLink (zOwnL.getD (zMof μ).1 "") x.catchType (zExc E) ∈ zGd ∧ (zExc E, zExc E) ∈ zCastL ∧ (∃ f : Fin 4, f.val = k ∧ decode (zB μ) x.handlerPc = .ok (.astore_n f, 1) ∧ x.handlerPc + 1 = p' ∨ decode (zB μ) x.handlerPc = .ok (.astore k, 2) ∧ x.handlerPc + 2 = p') ∧ k < (zMof μ).2.2.1
set_option maxRecDepth 100000 in
theorem zhx_0 : zHok 58 4 1 13 3 := ⟨[], ⟨0, 9, 12, 13⟩, [], rfl, fun z hz => absurd hz List.not_mem_nil, by decide, by decide, zGd_in (zch2 (List.mem_of_getElem? (i := 100) rfl)) rfl, by decide +kernel, ⟨⟨3, by decide⟩, Or.inl ⟨rfl, by decide +kernel, rfl⟩⟩, by decide⟩
set_option maxRecDepth 100000 in
theorem zhx_1 : zHok 89 4 1 13 3 := ⟨[], ⟨0, 9, 12, 13⟩, [], rfl, fun z hz => absurd hz List.not_mem_nil, by decide, by decide, zGd_in (zch2 (List.mem_of_getElem? (i := 100) rfl)) rfl, by decide +kernel, ⟨⟨3, by decide⟩, Or.inl ⟨rfl, by decide +kernel, rfl⟩⟩, by decide⟩
set_option maxRecDepth 100000 in
theorem zhx_2 : zHok 102 4 1 13 3 := ⟨[], ⟨0, 9, 12, 13⟩, [], rfl, fun z hz => absurd hz List.not_mem_nil, by decide, by decide, zGd_in (zch2 (List.mem_of_getElem? (i := 100) rfl)) rfl, by decide +kernel, ⟨⟨3, by decide⟩, Or.inl ⟨rfl, by decide +kernel, rfl⟩⟩, by decide⟩
set_option maxRecDepth 100000 in
theorem zhx_3 : zHok 107 4 1 13 3 := ⟨[], ⟨0, 9, 12, 13⟩, [], rfl, fun z hz => absurd hz List.not_mem_nil, by decide, by decide, zGd_in (zch2 (List.mem_of_getElem? (i := 100) rfl)) rfl, by decide +kernel, ⟨⟨3, by decide⟩, Or.inl ⟨rfl, by decide +kernel, rfl⟩⟩, by decide⟩
set_option maxRecDepth 100000 in
theorem zhx_4 : zHok 111 4 1 13 3 := ⟨[], ⟨0, 9, 12, 13⟩, [], rfl, fun z hz => absurd hz List.not_mem_nil, by decide, by decide, zGd_in (zch2 (List.mem_of_getElem? (i := 100) rfl)) rfl, by decide +kernel, ⟨⟨3, by decide⟩, Or.inl ⟨rfl, by decide +kernel, rfl⟩⟩, by decide⟩
set_option maxRecDepth 100000 in
theorem zhx_5 : zHok 115 5 0 15 4 := ⟨[], ⟨0, 10, 13, 31⟩, [⟨0, 10, 17, 13⟩], rfl, fun z hz => absurd hz List.not_mem_nil, by decide, by decide, zGd_in (zch4 (List.mem_of_getElem? (i := 6) rfl)) rfl, by decide +kernel, ⟨⟨0, by decide⟩, Or.inr ⟨by decide +kernel, rfl⟩⟩, by decide⟩
set_option maxRecDepth 100000 in
theorem zhx_6 : zHok 115 5 1 19 4 := ⟨[⟨0, 10, 13, 31⟩], ⟨0, 10, 17, 13⟩, [], rfl, List.forall_mem_cons.mpr ⟨Or.inr ⟨by decide, "java/util/NoSuchElementException", zGd_in (zch4 (List.mem_of_getElem? (i := 6) rfl)) rfl, by decide +kernel⟩, fun z hz => absurd hz List.not_mem_nil⟩, by decide, by decide, zGd_in (zch2 (List.mem_of_getElem? (i := 100) rfl)) rfl, by decide +kernel, ⟨⟨0, by decide⟩, Or.inr ⟨by decide +kernel, rfl⟩⟩, by decide⟩
set_option maxRecDepth 100000 in
theorem zhx_7 : zHok 118 4 0 13 3 := ⟨[], ⟨0, 9, 12, 31⟩, [], rfl, fun z hz => absurd hz List.not_mem_nil, by decide, by decide, zGd_in (zch4 (List.mem_of_getElem? (i := 6) rfl)) rfl, by decide +kernel, ⟨⟨3, by decide⟩, Or.inl ⟨rfl, by decide +kernel, rfl⟩⟩, by decide⟩
set_option maxRecDepth 100000 in
theorem zhx_8 : zHok 120 4 1 13 3 := ⟨[], ⟨0, 9, 12, 13⟩, [], rfl, fun z hz => absurd hz List.not_mem_nil, by decide, by decide, zGd_in (zch2 (List.mem_of_getElem? (i := 100) rfl)) rfl, by decide +kernel, ⟨⟨3, by decide⟩, Or.inl ⟨rfl, by decide +kernel, rfl⟩⟩, by decide⟩
set_option maxRecDepth 100000 in
theorem zhx_9 : zHok 122 4 1 20 3 := ⟨[], ⟨0, 16, 19, 13⟩, [], rfl, fun z hz => absurd hz List.not_mem_nil, by decide, by decide, zGd_in (zch2 (List.mem_of_getElem? (i := 100) rfl)) rfl, by decide +kernel, ⟨⟨3, by decide⟩, Or.inl ⟨rfl, by decide +kernel, rfl⟩⟩, by decide⟩
set_option maxRecDepth 100000 in
theorem zhx_10 : zHok 124 13 1 23 8 := ⟨[], ⟨0, 18, 21, 13⟩, [], rfl, fun z hz => absurd hz List.not_mem_nil, by decide, by decide, zGd_in (zch2 (List.mem_of_getElem? (i := 100) rfl)) rfl, by decide +kernel, ⟨⟨0, by decide⟩, Or.inr ⟨by decide +kernel, rfl⟩⟩, by decide⟩
set_option maxRecDepth 100000 in
theorem zhx_11 : zHok 126 5 0 15 4 := ⟨[], ⟨0, 10, 13, 31⟩, [⟨0, 10, 17, 13⟩], rfl, fun z hz => absurd hz List.not_mem_nil, by decide, by decide, zGd_in (zch4 (List.mem_of_getElem? (i := 6) rfl)) rfl, by decide +kernel, ⟨⟨0, by decide⟩, Or.inr ⟨by decide +kernel, rfl⟩⟩, by decide⟩
set_option maxRecDepth 100000 in
theorem zhx_12 : zHok 126 5 1 19 4 := ⟨[⟨0, 10, 13, 31⟩], ⟨0, 10, 17, 13⟩, [], rfl, List.forall_mem_cons.mpr ⟨Or.inr ⟨by decide, "java/util/NoSuchElementException", zGd_in (zch4 (List.mem_of_getElem? (i := 6) rfl)) rfl, by decide +kernel⟩, fun z hz => absurd hz List.not_mem_nil⟩, by decide, by decide, zGd_in (zch2 (List.mem_of_getElem? (i := 100) rfl)) rfl, by decide +kernel, ⟨⟨0, by decide⟩, Or.inr ⟨by decide +kernel, rfl⟩⟩, by decide⟩
set_option maxRecDepth 100000 in
theorem zhx_13 : zHok 128 4 0 13 3 := ⟨[], ⟨0, 9, 12, 31⟩, [], rfl, fun z hz => absurd hz List.not_mem_nil, by decide, by decide, zGd_in (zch4 (List.mem_of_getElem? (i := 6) rfl)) rfl, by decide +kernel, ⟨⟨3, by decide⟩, Or.inl ⟨rfl, by decide +kernel, rfl⟩⟩, by decide⟩
set_option maxRecDepth 100000 in
theorem zhx_14 : zHok 130 4 0 13 3 := ⟨[], ⟨0, 9, 12, 31⟩, [], rfl, fun z hz => absurd hz List.not_mem_nil, by decide, by decide, zGd_in (zch4 (List.mem_of_getElem? (i := 6) rfl)) rfl, by decide +kernel, ⟨⟨3, by decide⟩, Or.inl ⟨rfl, by decide +kernel, rfl⟩⟩, by decide⟩
set_option maxRecDepth 100000 in
theorem zhx_15 : zHok 132 4 0 13 3 := ⟨[], ⟨0, 9, 12, 31⟩, [], rfl, fun z hz => absurd hz List.not_mem_nil, by decide, by decide, zGd_in (zch4 (List.mem_of_getElem? (i := 6) rfl)) rfl, by decide +kernel, ⟨⟨3, by decide⟩, Or.inl ⟨rfl, by decide +kernel, rfl⟩⟩, by decide⟩
set_option maxRecDepth 100000 in
theorem zhx_16 : zHok 134 4 0 13 3 := ⟨[], ⟨0, 9, 12, 31⟩, [], rfl, fun z hz => absurd hz List.not_mem_nil, by decide, by decide, zGd_in (zch4 (List.mem_of_getElem? (i := 6) rfl)) rfl, by decide +kernel, ⟨⟨3, by decide⟩, Or.inl ⟨rfl, by decide +kernel, rfl⟩⟩, by decide⟩
set_option maxRecDepth 100000 in
theorem zhx_17 : zHok 136 4 0 13 3 := ⟨[], ⟨0, 9, 12, 31⟩, [], rfl, fun z hz => absurd hz List.not_mem_nil, by decide, by decide, zGd_in (zch4 (List.mem_of_getElem? (i := 6) rfl)) rfl, by decide +kernel, ⟨⟨3, by decide⟩, Or.inl ⟨rfl, by decide +kernel, rfl⟩⟩, by decide⟩
set_option maxRecDepth 100000 in
theorem zhx_18 : zHok 138 4 1 13 3 := ⟨[], ⟨0, 9, 12, 13⟩, [⟨0, 9, 15, 68⟩], rfl, fun z hz => absurd hz List.not_mem_nil, by decide, by decide, zGd_in (zch2 (List.mem_of_getElem? (i := 100) rfl)) rfl, by decide +kernel, ⟨⟨3, by decide⟩, Or.inl ⟨rfl, by decide +kernel, rfl⟩⟩, by decide⟩
set_option maxRecDepth 100000 in
theorem zhx_19 : zHok 138 4 2 16 3 := ⟨[⟨0, 9, 12, 13⟩], ⟨0, 9, 15, 68⟩, [], rfl, List.forall_mem_cons.mpr ⟨Or.inr ⟨by decide, "java/lang/IllegalArgumentException", zGd_in (zch2 (List.mem_of_getElem? (i := 100) rfl)) rfl, by decide +kernel⟩, fun z hz => absurd hz List.not_mem_nil⟩, by decide, by decide, zGd_in (zch4 (List.mem_of_getElem? (i := 106) rfl)) rfl, by decide +kernel, ⟨⟨3, by decide⟩, Or.inl ⟨rfl, by decide +kernel, rfl⟩⟩, by decide⟩
set_option maxRecDepth 100000 in
theorem zhx_20 : zHok 152 4 1 13 3 := ⟨[], ⟨0, 9, 12, 13⟩, [⟨0, 9, 15, 68⟩], rfl, fun z hz => absurd hz List.not_mem_nil, by decide, by decide, zGd_in (zch2 (List.mem_of_getElem? (i := 100) rfl)) rfl, by decide +kernel, ⟨⟨3, by decide⟩, Or.inl ⟨rfl, by decide +kernel, rfl⟩⟩, by decide⟩
set_option maxRecDepth 100000 in
theorem zhx_21 : zHok 152 4 2 16 3 := ⟨[⟨0, 9, 12, 13⟩], ⟨0, 9, 15, 68⟩, [], rfl, List.forall_mem_cons.mpr ⟨Or.inr ⟨by decide, "java/lang/IllegalArgumentException", zGd_in (zch2 (List.mem_of_getElem? (i := 100) rfl)) rfl, by decide +kernel⟩, fun z hz => absurd hz List.not_mem_nil⟩, by decide, by decide, zGd_in (zch4 (List.mem_of_getElem? (i := 106) rfl)) rfl, by decide +kernel, ⟨⟨3, by decide⟩, Or.inl ⟨rfl, by decide +kernel, rfl⟩⟩, by decide⟩
set_option maxRecDepth 100000 in
theorem zhx_22 : zHok 155 7 1 17 5 := ⟨[], ⟨0, 12, 15, 13⟩, [], rfl, fun z hz => absurd hz List.not_mem_nil, by decide, by decide, zGd_in (zch2 (List.mem_of_getElem? (i := 100) rfl)) rfl, by decide +kernel, ⟨⟨0, by decide⟩, Or.inr ⟨by decide +kernel, rfl⟩⟩, by decide⟩
set_option maxRecDepth 100000 in
theorem zhx_23 : zHok 158 7 1 17 5 := ⟨[], ⟨0, 12, 15, 13⟩, [], rfl, fun z hz => absurd hz List.not_mem_nil, by decide, by decide, zGd_in (zch2 (List.mem_of_getElem? (i := 100) rfl)) rfl, by decide +kernel, ⟨⟨0, by decide⟩, Or.inr ⟨by decide +kernel, rfl⟩⟩, by decide⟩
set_option maxRecDepth 100000 in
theorem zhx_24 : zHok 160 9 1 19 6 := ⟨[], ⟨0, 14, 17, 13⟩, [], rfl, fun z hz => absurd hz List.not_mem_nil, by decide, by decide, zGd_in (zch2 (List.mem_of_getElem? (i := 100) rfl)) rfl, by decide +kernel, ⟨⟨0, by decide⟩, Or.inr ⟨by decide +kernel, rfl⟩⟩, by decide⟩
set_option maxRecDepth 100000 in
theorem zhx_25 : zHok 162 9 0 18 6 := ⟨[], ⟨0, 13, 16, 31⟩, [⟨0, 13, 20, 13⟩], rfl, fun z hz => absurd hz List.not_mem_nil, by decide, by decide, zGd_in (zch4 (List.mem_of_getElem? (i := 6) rfl)) rfl, by decide +kernel, ⟨⟨0, by decide⟩, Or.inr ⟨by decide +kernel, rfl⟩⟩, by decide⟩
set_option maxRecDepth 100000 in
theorem zhx_26 : zHok 162 9 1 22 6 := ⟨[⟨0, 13, 16, 31⟩], ⟨0, 13, 20, 13⟩, [], rfl, List.forall_mem_cons.mpr ⟨Or.inr ⟨by decide, "java/util/NoSuchElementException", zGd_in (zch4 (List.mem_of_getElem? (i := 6) rfl)) rfl, by decide +kernel⟩, fun z hz => absurd hz List.not_mem_nil⟩, by decide, by decide, zGd_in (zch2 (List.mem_of_getElem? (i := 100) rfl)) rfl, by decide +kernel, ⟨⟨0, by decide⟩, Or.inr ⟨by decide +kernel, rfl⟩⟩, by decide⟩
set_option maxRecDepth 100000 in
theorem zhx_27 : zHok 168 5 0 15 4 := ⟨[], ⟨0, 10, 13, 31⟩, [⟨0, 10, 17, 13⟩], rfl, fun z hz => absurd hz List.not_mem_nil, by decide, by decide, zGd_in (zch4 (List.mem_of_getElem? (i := 6) rfl)) rfl, by decide +kernel, ⟨⟨0, by decide⟩, Or.inr ⟨by decide +kernel, rfl⟩⟩, by decide⟩
set_option maxRecDepth 100000 in
theorem zhx_28 : zHok 168 5 1 19 4 := ⟨[⟨0, 10, 13, 31⟩], ⟨0, 10, 17, 13⟩, [], rfl, List.forall_mem_cons.mpr ⟨Or.inr ⟨by decide, "java/util/NoSuchElementException", zGd_in (zch4 (List.mem_of_getElem? (i := 6) rfl)) rfl, by decide +kernel⟩, fun z hz => absurd hz List.not_mem_nil⟩, by decide, by decide, zGd_in (zch2 (List.mem_of_getElem? (i := 100) rfl)) rfl, by decide +kernel, ⟨⟨0, by decide⟩, Or.inr ⟨by decide +kernel, rfl⟩⟩, by decide⟩
set_option maxRecDepth 100000 in
theorem zhx_29 : zHok 170 4 1 13 3 := ⟨[], ⟨0, 9, 12, 13⟩, [], rfl, fun z hz => absurd hz List.not_mem_nil, by decide, by decide, zGd_in (zch2 (List.mem_of_getElem? (i := 100) rfl)) rfl, by decide +kernel, ⟨⟨3, by decide⟩, Or.inl ⟨rfl, by decide +kernel, rfl⟩⟩, by decide⟩
set_option maxRecDepth 100000 in
theorem zhx_30 : zHok 172 9 1 18 6 := ⟨[], ⟨0, 13, 16, 13⟩, [], rfl, fun z hz => absurd hz List.not_mem_nil, by decide, by decide, zGd_in (zch2 (List.mem_of_getElem? (i := 100) rfl)) rfl, by decide +kernel, ⟨⟨0, by decide⟩, Or.inr ⟨by decide +kernel, rfl⟩⟩, by decide⟩
set_option maxRecDepth 100000 in
theorem zhx_31 : zHok 175 5 1 15 4 := ⟨[], ⟨0, 10, 13, 13⟩, [], rfl, fun z hz => absurd hz List.not_mem_nil, by decide, by decide, zGd_in (zch2 (List.mem_of_getElem? (i := 100) rfl)) rfl, by decide +kernel, ⟨⟨0, by decide⟩, Or.inr ⟨by decide +kernel, rfl⟩⟩, by decide⟩
set_option maxRecDepth 100000 in
theorem zhx_32 : zHok 177 5 1 15 4 := ⟨[], ⟨0, 10, 13, 13⟩, [], rfl, fun z hz => absurd hz List.not_mem_nil, by decide, by decide, zGd_in (zch2 (List.mem_of_getElem? (i := 100) rfl)) rfl, by decide +kernel, ⟨⟨0, by decide⟩, Or.inr ⟨by decide +kernel, rfl⟩⟩, by decide⟩
set_option maxRecDepth 100000 in
theorem zhx_33 : zHok 182 4 1 13 3 := ⟨[], ⟨0, 9, 12, 13⟩, [], rfl, fun z hz => absurd hz List.not_mem_nil, by decide, by decide, zGd_in (zch2 (List.mem_of_getElem? (i := 100) rfl)) rfl, by decide +kernel, ⟨⟨3, by decide⟩, Or.inl ⟨rfl, by decide +kernel, rfl⟩⟩, by decide⟩
set_option maxRecDepth 100000 in
theorem zhx_34 : zHok 185 4 1 13 3 := ⟨[], ⟨0, 9, 12, 13⟩, [], rfl, fun z hz => absurd hz List.not_mem_nil, by decide, by decide, zGd_in (zch2 (List.mem_of_getElem? (i := 100) rfl)) rfl, by decide +kernel, ⟨⟨3, by decide⟩, Or.inl ⟨rfl, by decide +kernel, rfl⟩⟩, by decide⟩
set_option maxRecDepth 100000 in
theorem zhx_35 : zHok 187 4 1 13 3 := ⟨[], ⟨0, 9, 12, 13⟩, [], rfl, fun z hz => absurd hz List.not_mem_nil, by decide, by decide, zGd_in (zch2 (List.mem_of_getElem? (i := 100) rfl)) rfl, by decide +kernel, ⟨⟨3, by decide⟩, Or.inl ⟨rfl, by decide +kernel, rfl⟩⟩, by decide⟩
set_option maxRecDepth 100000 in
theorem zhx_36 : zHok 193 4 1 13 3 := ⟨[], ⟨0, 9, 12, 13⟩, [], rfl, fun z hz => absurd hz List.not_mem_nil, by decide, by decide, zGd_in (zch2 (List.mem_of_getElem? (i := 100) rfl)) rfl, by decide +kernel, ⟨⟨3, by decide⟩, Or.inl ⟨rfl, by decide +kernel, rfl⟩⟩, by decide⟩
set_option maxRecDepth 100000 in
theorem zhx_37 : zHok 196 5 0 14 4 := ⟨[], ⟨0, 9, 12, 31⟩, [⟨0, 9, 16, 13⟩], rfl, fun z hz => absurd hz List.not_mem_nil, by decide, by decide, zGd_in (zch4 (List.mem_of_getElem? (i := 6) rfl)) rfl, by decide +kernel, ⟨⟨0, by decide⟩, Or.inr ⟨by decide +kernel, rfl⟩⟩, by decide⟩
set_option maxRecDepth 100000 in
theorem zhx_38 : zHok 196 5 1 18 4 := ⟨[⟨0, 9, 12, 31⟩], ⟨0, 9, 16, 13⟩, [], rfl, List.forall_mem_cons.mpr ⟨Or.inr ⟨by decide, "java/util/NoSuchElementException", zGd_in (zch4 (List.mem_of_getElem? (i := 6) rfl)) rfl, by decide +kernel⟩, fun z hz => absurd hz List.not_mem_nil⟩, by decide, by decide, zGd_in (zch2 (List.mem_of_getElem? (i := 100) rfl)) rfl, by decide +kernel, ⟨⟨0, by decide⟩, Or.inr ⟨by decide +kernel, rfl⟩⟩, by decide⟩
set_option maxRecDepth 100000 in
theorem zhx_39 : zHok 198 5 1 15 4 := ⟨[], ⟨0, 10, 13, 13⟩, [], rfl, fun z hz => absurd hz List.not_mem_nil, by decide, by decide, zGd_in (zch2 (List.mem_of_getElem? (i := 100) rfl)) rfl, by decide +kernel, ⟨⟨0, by decide⟩, Or.inr ⟨by decide +kernel, rfl⟩⟩, by decide⟩
set_option maxRecDepth 100000 in
theorem zhx_40 : zHok 202 7 1 17 5 := ⟨[], ⟨0, 12, 15, 13⟩, [], rfl, fun z hz => absurd hz List.not_mem_nil, by decide, by decide, zGd_in (zch2 (List.mem_of_getElem? (i := 100) rfl)) rfl, by decide +kernel, ⟨⟨0, by decide⟩, Or.inr ⟨by decide +kernel, rfl⟩⟩, by decide⟩
set_option maxRecDepth 100000 in
theorem zhx_41 : zHok 204 5 0 15 4 := ⟨[], ⟨0, 10, 13, 31⟩, [], rfl, fun z hz => absurd hz List.not_mem_nil, by decide, by decide, zGd_in (zch4 (List.mem_of_getElem? (i := 6) rfl)) rfl, by decide +kernel, ⟨⟨0, by decide⟩, Or.inr ⟨by decide +kernel, rfl⟩⟩, by decide⟩
set_option maxRecDepth 100000 in
theorem zhx_42 : zHok 208 5 0 15 4 := ⟨[], ⟨0, 10, 13, 31⟩, [⟨0, 10, 17, 13⟩], rfl, fun z hz => absurd hz List.not_mem_nil, by decide, by decide, zGd_in (zch4 (List.mem_of_getElem? (i := 6) rfl)) rfl, by decide +kernel, ⟨⟨0, by decide⟩, Or.inr ⟨by decide +kernel, rfl⟩⟩, by decide⟩
set_option maxRecDepth 100000 in
theorem zhx_43 : zHok 208 5 1 19 4 := ⟨[⟨0, 10, 13, 31⟩], ⟨0, 10, 17, 13⟩, [], rfl, List.forall_mem_cons.mpr ⟨Or.inr ⟨by decide, "java/util/NoSuchElementException", zGd_in (zch4 (List.mem_of_getElem? (i := 6) rfl)) rfl, by decide +kernel⟩, fun z hz => absurd hz List.not_mem_nil⟩, by decide, by decide, zGd_in (zch2 (List.mem_of_getElem? (i := 100) rfl)) rfl, by decide +kernel, ⟨⟨0, by decide⟩, Or.inr ⟨by decide +kernel, rfl⟩⟩, by decide⟩
set_option maxRecDepth 100000 in
theorem zhx_44 : zHok 211 4 0 13 3 := ⟨[], ⟨0, 9, 12, 31⟩, [], rfl, fun z hz => absurd hz List.not_mem_nil, by decide, by decide, zGd_in (zch4 (List.mem_of_getElem? (i := 6) rfl)) rfl, by decide +kernel, ⟨⟨3, by decide⟩, Or.inl ⟨rfl, by decide +kernel, rfl⟩⟩, by decide⟩
def zHA_0 : List ((Nat × Nat × Nat) × Nat × Nat) := [((58, 4, 1), 13, 3), ((89, 4, 1), 13, 3), ((102, 4, 1), 13, 3), ((107, 4, 1), 13, 3), ((111, 4, 1), 13, 3), ((115, 5, 0), 15, 4), ((115, 5, 1), 19, 4), ((118, 4, 0), 13, 3), ((120, 4, 1), 13, 3), ((122, 4, 1), 20, 3), ((124, 13, 1), 23, 8), ((126, 5, 0), 15, 4)]
theorem zHB_0 : ∀ e ∈ zHA_0, zHok e.1.1 e.1.2.1 e.1.2.2 e.2.1 e.2.2 := List.forall_mem_cons.mpr ⟨zhx_0, List.forall_mem_cons.mpr ⟨zhx_1, List.forall_mem_cons.mpr ⟨zhx_2, List.forall_mem_cons.mpr ⟨zhx_3, List.forall_mem_cons.mpr ⟨zhx_4, List.forall_mem_cons.mpr ⟨zhx_5, List.forall_mem_cons.mpr ⟨zhx_6, List.forall_mem_cons.mpr ⟨zhx_7, List.forall_mem_cons.mpr ⟨zhx_8, List.forall_mem_cons.mpr ⟨zhx_9, List.forall_mem_cons.mpr ⟨zhx_10, List.forall_mem_cons.mpr ⟨zhx_11, fun _ h => absurd h List.not_mem_nil⟩⟩⟩⟩⟩⟩⟩⟩⟩⟩⟩⟩
def zHA_1 : List ((Nat × Nat × Nat) × Nat × Nat) := [((126, 5, 1), 19, 4), ((128, 4, 0), 13, 3), ((130, 4, 0), 13, 3), ((132, 4, 0), 13, 3), ((134, 4, 0), 13, 3), ((136, 4, 0), 13, 3), ((138, 4, 1), 13, 3), ((138, 4, 2), 16, 3), ((152, 4, 1), 13, 3), ((152, 4, 2), 16, 3), ((155, 7, 1), 17, 5), ((158, 7, 1), 17, 5)]
theorem zHB_1 : ∀ e ∈ zHA_1, zHok e.1.1 e.1.2.1 e.1.2.2 e.2.1 e.2.2 := List.forall_mem_cons.mpr ⟨zhx_12, List.forall_mem_cons.mpr ⟨zhx_13, List.forall_mem_cons.mpr ⟨zhx_14, List.forall_mem_cons.mpr ⟨zhx_15, List.forall_mem_cons.mpr ⟨zhx_16, List.forall_mem_cons.mpr ⟨zhx_17, List.forall_mem_cons.mpr ⟨zhx_18, List.forall_mem_cons.mpr ⟨zhx_19, List.forall_mem_cons.mpr ⟨zhx_20, List.forall_mem_cons.mpr ⟨zhx_21, List.forall_mem_cons.mpr ⟨zhx_22, List.forall_mem_cons.mpr ⟨zhx_23, fun _ h => absurd h List.not_mem_nil⟩⟩⟩⟩⟩⟩⟩⟩⟩⟩⟩⟩
def zHA_2 : List ((Nat × Nat × Nat) × Nat × Nat) := [((160, 9, 1), 19, 6), ((162, 9, 0), 18, 6), ((162, 9, 1), 22, 6), ((168, 5, 0), 15, 4), ((168, 5, 1), 19, 4), ((170, 4, 1), 13, 3), ((172, 9, 1), 18, 6), ((175, 5, 1), 15, 4), ((177, 5, 1), 15, 4), ((182, 4, 1), 13, 3), ((185, 4, 1), 13, 3), ((187, 4, 1), 13, 3)]
theorem zHB_2 : ∀ e ∈ zHA_2, zHok e.1.1 e.1.2.1 e.1.2.2 e.2.1 e.2.2 := List.forall_mem_cons.mpr ⟨zhx_24, List.forall_mem_cons.mpr ⟨zhx_25, List.forall_mem_cons.mpr ⟨zhx_26, List.forall_mem_cons.mpr ⟨zhx_27, List.forall_mem_cons.mpr ⟨zhx_28, List.forall_mem_cons.mpr ⟨zhx_29, List.forall_mem_cons.mpr ⟨zhx_30, List.forall_mem_cons.mpr ⟨zhx_31, List.forall_mem_cons.mpr ⟨zhx_32, List.forall_mem_cons.mpr ⟨zhx_33, List.forall_mem_cons.mpr ⟨zhx_34, List.forall_mem_cons.mpr ⟨zhx_35, fun _ h => absurd h List.not_mem_nil⟩⟩⟩⟩⟩⟩⟩⟩⟩⟩⟩⟩
def zHA_3 : List ((Nat × Nat × Nat) × Nat × Nat) := [((193, 4, 1), 13, 3), ((196, 5, 0), 14, 4), ((196, 5, 1), 18, 4), ((198, 5, 1), 15, 4), ((202, 7, 1), 17, 5), ((204, 5, 0), 15, 4), ((208, 5, 0), 15, 4), ((208, 5, 1), 19, 4), ((211, 4, 0), 13, 3)]
theorem zHB_3 : ∀ e ∈ zHA_3, zHok e.1.1 e.1.2.1 e.1.2.2 e.2.1 e.2.2 := List.forall_mem_cons.mpr ⟨zhx_36, List.forall_mem_cons.mpr ⟨zhx_37, List.forall_mem_cons.mpr ⟨zhx_38, List.forall_mem_cons.mpr ⟨zhx_39, List.forall_mem_cons.mpr ⟨zhx_40, List.forall_mem_cons.mpr ⟨zhx_41, List.forall_mem_cons.mpr ⟨zhx_42, List.forall_mem_cons.mpr ⟨zhx_43, List.forall_mem_cons.mpr ⟨zhx_44, fun _ h => absurd h List.not_mem_nil⟩⟩⟩⟩⟩⟩⟩⟩⟩
theorem zHJ_3 : ∀ e ∈ zHA_3, zHok e.1.1 e.1.2.1 e.1.2.2 e.2.1 e.2.2 := zHB_3
theorem zHJ_2 : ∀ e ∈ zHA_2 ++ (zHA_3), zHok e.1.1 e.1.2.1 e.1.2.2 e.2.1 e.2.2 := z_split rfl zHB_2 zHJ_3
theorem zHJ_1 : ∀ e ∈ zHA_1 ++ (zHA_2 ++ (zHA_3)), zHok e.1.1 e.1.2.1 e.1.2.2 e.2.1 e.2.2 := z_split rfl zHB_1 zHJ_2
theorem zHJ_0 : ∀ e ∈ zHA_0 ++ (zHA_1 ++ (zHA_2 ++ (zHA_3))), zHok e.1.1 e.1.2.1 e.1.2.2 e.2.1 e.2.2 := z_split rfl zHB_0 zHJ_1
theorem zHd_eq : zHdL = zHA_0 ++ (zHA_1 ++ (zHA_2 ++ (zHA_3))) := rfl
theorem z_lookup3 {α : Type} {l : List ((Nat × Nat × Nat) × α)} {k : Nat × Nat × Nat} {v : α} (h : l.lookup k = some v) : (k, v) ∈ l := by
  induction l with
  | nil => cases h
  | cons x r ih =>
    obtain ⟨a, b⟩ := x
    rw [List.lookup_cons] at h
    split at h
    · rename_i e
      cases h
      have e2 : k = a := by simpa using e
      rw [e2]
      exact List.mem_cons_self
    · exact List.mem_cons_of_mem _ (ih h)
theorem zHd_ok {μ pc E p' k : Nat} (h : zHd μ pc E = some (p', k)) : zHok μ pc E p' k := zHJ_0 ((μ, pc, E), p', k) (zHd_eq ▸ z_lookup3 h)
def zAfS (l : Launch) (D : va_G) (κ : Nat → ClassId) (ρ : Nat → Nat) (A : Nat → Prop) (g : Int → Int) (d μ pc : Nat) (ls rest : List zV) (r1 r : zO) : Prop := match r1.1 with
  | .inl vs => zSnd l D κ ρ A g d μ (pc + 3) ls (vs ++ rest) r1.2 r
  | .inr E => match zHd μ pc E with
    | some (p', k) => (∃ v, ls[k]? = some v ∧ v.1 = 9) ∧ (∀ j v, k = j + 1 → ls[j]? = some v → v.1 ≠ 1) ∧ zSnd l D κ ρ A g d μ p' ls [] r1.2 r
    | none => (zMof μ).2.2.2.2.2 = false ∧ r = (.inr E, r1.2)
theorem zAfS_le {l : Launch} {D : va_G} {κ : Nat → ClassId} {ρ : Nat → Nat} {A : Nat → Prop} {g : Int → Int} {d μ pc : Nat} {ls rest : List zV} {r1 r : zO} (h : zAfS l D κ ρ A g d μ pc ls rest r1 r) : zLe r1.2 r.2 := by
  unfold zAfS at h
  split at h
  · exact h.1
  · split at h
    · exact h.2.2.1
    · rw [h.2]
      exact ⟨Nat.le_refl _, Nat.le_refl _⟩
theorem zLs_exc {σ ρ : Nat → Nat} {n nL k : Nat} {L : List zV} {ls ls' : Array Slot} {c : Value} (h : zLs σ ρ n nL L ls) (hk : ∃ v, L[k]? = some v ∧ v.1 = 9) (hj : ∀ j v, k = j + 1 → L[j]? = some v → v.1 ≠ 1)
    (h' : lv_has ls' nL ((k, c) :: (zLv σ ρ L).filter (fun q => !(q.1 == k) && !(q.1 + 1 == k && q.2.category == 2)))) : zLs σ ρ n nL L ls' := by
  refine ⟨h.1, ⟨h'.1, h'.2.1, fun q hq => h'.2.2 q ?_⟩, h.2.2⟩
  obtain ⟨v, h1, h9, e⟩ := zLv_mem.mp hq
  rw [List.mem_cons]
  right
  rw [List.mem_filter]
  refine ⟨hq, ?_⟩
  have n1 : (q.1 == k) = false := by
    simp only [beq_eq_false_iff_ne]
    intro t
    obtain ⟨w, hw, hw9⟩ := hk
    rw [t, hw] at h1
    cases h1
    exact h9 hw9
  rw [n1]
  by_cases t : q.1 + 1 = k
  · have n2 : (q.2.category == 2) = false := by
      rw [e, zc_cat]
      unfold zcat
      rw [if_neg (hj q.1 v t.symm h1)]
      rfl
    rw [n2]
    simp
  · have n2 : (q.1 + 1 == k) = false := by simpa using t
    rw [n2]
    simp
section ZC
variable {l : Launch} {D : va_G} {κ : Nat → ClassId} {ρ : Nat → Nat} {A : Nat → Prop} {g : Int → Int} {d μ ν pc len : Nat} {ls rest : List zV} {S : zS} {r r1 : zO}
theorem z_run {p : Program} {e : Env} {R : Room} {s : State} {m : MethodId} {args : Array Value} {below : List Frame} {meth : Method} {c : Code} {H : Heap} {locs : List Loc} {cells slots n0 : Nat} {σ0 σ : Nat → Nat} {lsC : Array Slot} {st0 : List Value} {aC : Array Value} (hμ : μ < 335)
    (hr : vx_Run p l e R s m args below meth c H locs cells slots (zCc r1.2 - zCc S) (zSl r1.2 - zSl S) (F0 m pc lsC st0) (rest.map (zc σ ρ)) (zQc D κ ρ A g σ S.2.1 r1 aC) (zXc D κ A g σ S.2.1 r1) A)
    (C : zCx l D κ ρ A g d μ p R s m args meth c) (hle : zLe S r1.2) (hn0 : n0 ≤ S.2.1) (hσ : ∀ j, j ≤ n0 → σ j = σ0 j) (hS : va_S A s.heap H locs) (hl : zLs σ ρ S.2.1 (zMof μ).2.2.1 ls lsC) (hrest : ∀ v ∈ rest, zOk S.2.1 v)
    (hce : cells + (zCc r.2 - zCc S) ≤ R.cells) (hsl : slots + (zSl r.2 - zSl S) ≤ R.slots) (haft : zAfS l D κ ρ A g d μ pc ls rest r1 r) :
    W p l e R s m args below meth c H locs cells slots (vx_MQ below (zQc D κ ρ A g σ0 n0 r) (zXc D κ A g σ0 n0 r) args s R.cells R.slots A) (F0 m pc lsC st0) := by
  obtain ⟨⟨hlt, hx, hb, hml, hown, hts⟩, ⟨hr1, hlk, hnm, htb⟩, hK, hKn, hA, hfr, hlo⟩ := id C
  have hle2 := zAfS_le haft
  have c1 := zLe_cc hle
  have c2 := zLe_cc hle2
  have c3 := zLe_sl hle
  have c4 := zLe_sl hle2
  intro T hT X
  have mkS : ∀ (st₀ t : State) (L : List Loc), st₀.heap = H → (∀ q ∈ L, A q.base) → va_F A st₀ t → va_S A s.heap t.heap (locs ++ L) := by
    intro st₀ t L e0 hL hF
    refine ⟨Nat.le_trans hS.1 (by rw [← e0]; exact hF.1), fun q q1 q2 => ?_, fun z hz => ?_⟩
    · rw [hF.2 q (by rw [e0]; exact Nat.lt_of_lt_of_le q1 hS.1) q2, e0]
      exact hS.2.1 q q1 q2
    · rcases List.mem_append.mp hz with q | q
      · exact hS.2.2 z q
      · exact hL z q
  rcases hr T hT X with ⟨v, st₀, t, T', L, e0, X', hL, e1, e2, hq, hgo⟩ | ⟨q, st₀, t, T', L, E, ce, e0, X', hL, e1, e2, hxx, hcq, hcv, hcl, hsteps⟩
  · obtain ⟨vs, σ', hr2, hext, hov, hlen, hok, ⟨hP1, hK1, hD1, hI1⟩, hF⟩ := hq
    unfold zAfS at haft
    rw [hr2] at haft
    dsimp only at haft
    have kk := haft.2 p e R s m args below meth c C σ0 n0 σ' t.heap (locs ++ L) (cells + (zCc r1.2 - zCc S)) (slots + (zSl r1.2 - zSl S)) lsC (Nat.le_trans hn0 hle.1) (fun j hj => (hext j (Nat.le_trans hj hn0)).trans (hσ j hj)) hP1 hD1 (mkS st₀ t L e0 hL hF) hI1 (zLs_ext hext hle.1 hl)
      (fun w hw => (List.mem_append.mp hw).elim (hok w) (fun q => zOk_mono hle.1 (hrest w q))) (by omega) (by omega)
    obtain ⟨t2, a1, b1⟩ := kk T' e1 X'
    refine ⟨t2, hgo t2 ?_, b1⟩
    have e3 : v.toList ++ rest.map (zc σ ρ) = (vs ++ rest).map (zc σ' ρ) := by
      have ev : v = (vs.map (zc σ' ρ)).head? := by
        injection hov
      rw [ev, List.map_append, z_map_ext hext hrest]
      congr 1
      match vs, hlen with
      | [], _ => rfl
      | [w], _ => rfl
    show Steps p.tables e below (T'.setTop (F0 m (pc + 3) lsC (v.toList ++ rest.map (zc σ ρ)))) t2
    rw [e3]
    exact a1
  · obtain ⟨k, σ', hr2, hE, hext, ⟨hP1, hK1, hD1, hI1⟩, hF⟩ := hxx
    have hS1 := mkS st₀ t L e0 hL hF
    have hext0 : ∀ j, j ≤ n0 → σ' j = σ0 j := fun j hj => (hext j (Nat.le_trans hj hn0)).trans (hσ j hj)
    subst hE
    unfold zAfS at haft
    rw [hr2] at haft
    dsimp only at haft
    cases hh : zHd μ pc k with
    | none =>
      rw [hh] at haft
      obtain ⟨hnh, hrr⟩ := haft
      subst hrr
      have htb0 : c.exceptionTable.toList = [] := by rw [htb, zTab_0 hμ hnh]; rfl
      have kk : vx_W p l e R s m args below meth c t.heap (locs ++ L) (cells + (zCc r1.2 - zCc S)) (slots + (zSl r1.2 - zSl S)) (vx_MQ below (zQc D κ ρ A g σ0 n0 (.inr k, r1.2)) (zXc D κ A g σ0 n0 (.inr k, r1.2)) args s R.cells R.slots A) (F0 m pc lsC (rest.map (zc σ ρ))) q :=
        vx_out (fun x hx => by rw [htb0] at hx; cases hx) hlk hcq hcv hcl (fun t2 ht2 hv2 => ⟨k, σ', rfl, rfl, hext0, ⟨by rw [ht2]; exact hP1, va_K.moved hv2 hK, hD1, hI1⟩, hS1.F ht2⟩) hS1.2.2 (by dsimp only at hce; omega) (by dsimp only at hsl; omega)
      obtain ⟨t2, a1, b1⟩ := kk T' e1 X'
      exact ⟨t2, hsteps.trans a1, b1⟩
    | some pk =>
      obtain ⟨p', kx⟩ := pk
      rw [hh] at haft
      dsimp only at haft
      obtain ⟨hk9, hkj, hz⟩ := haft
      obtain ⟨pre, x, suf, hsplit, hpass, hcov, hct, hclk, hcast, hast, hkx⟩ := zHd_ok hh
      have kk : vx_W p l e R s m args below meth c t.heap (locs ++ L) (cells + (zCc r1.2 - zCc S)) (slots + (zSl r1.2 - zSl S)) (vx_MQ below (zQc D κ ρ A g σ0 n0 r) (zXc D κ A g σ0 n0 r) args s R.cells R.slots A) (F0 m pc lsC (rest.map (zc σ ρ))) q := by
        refine vx_catch hown pre x suf (htb.trans hsplit) (fun z hz => ?_) hcov hct (hts _ hclk) (va_Nw.use rfl (hKn.2.1.2.2.2.2.1 _ hcast)) hcq hcv hcl ?_
        · rcases hpass z hz with w | ⟨w1, nm, w2, w3⟩
          · exact Or.inl w
          · exact Or.inr ⟨w1, nm, hts _ w2, hKn.2.2.2.2.2.2 _ w3⟩
        · have fin : ∀ ls', lv_has ls' (zMof μ).2.2.1 ((kx, Value.ref q) :: (zLv σ ρ ls).filter (fun q => !(q.1 == kx) && !(q.1 + 1 == kx && q.2.category == 2))) → W p l e R s m args below meth c t.heap (locs ++ L) (cells + (zCc r1.2 - zCc S)) (slots + (zSl r1.2 - zSl S)) (vx_MQ below (zQc D κ ρ A g σ0 n0 r) (zXc D κ A g σ0 n0 r) args s R.cells R.slots A) (F0 m p' ls' []) := by
            intro ls' hl'
            exact hz.2 p e R s m args below meth c C σ0 n0 σ' t.heap (locs ++ L) (cells + (zCc r1.2 - zCc S)) (slots + (zSl r1.2 - zSl S)) ls' (Nat.le_trans hn0 hle.1) hext0 hP1 hD1 hS1 hI1 (zLs_ext hext hle.1 (zLs_exc hl hk9 hkj hl')) (fun w hw => by cases hw) (by omega) (by omega)
          obtain ⟨f, ⟨hf1, hf2, hf3⟩ | ⟨hf2, hf3⟩⟩ := hast
          · rw [← hf3] at fin
            exact lv_astore_n hx hb hf2 hf1 hl.2.1 hkx rfl fin
          · rw [← hf3] at fin
            exact lv_astore hx hb hf2 hl.2.1 hkx rfl fin
      obtain ⟨t2, a1, b1⟩ := kk T' e1 X'
      exact ⟨t2, hsteps.trans a1, b1⟩
end ZC
