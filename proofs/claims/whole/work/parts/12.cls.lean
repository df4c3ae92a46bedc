def zTf (ci k : Nat) : FieldType := (parseFieldDescriptor ((zT3 ci).2.1 k).2.2.1).getD .int
def zRefT (t : FieldType) : Bool := match t with
  | .object _ => true
  | .array _ => true
  | _ => false
def zCf (ci k : Nat) : Prop := u_lay (zT3 ci).1 (zT3 ci).2.1 k ∈ lw_tbl ∧ parseFieldDescriptor ((zT3 ci).2.1 k).2.2.1 = some (zTf ci k) ∧ ((zT3 ci).2.1 k).1 = (zT3 ci).1 ∧ ((zTy ci k = 0 ∧ zTf ci k = .int) ∨ (zTy ci k = 1 ∧ zTf ci k = .boolean) ∨ (zTy ci k = 2 ∧ zRefT (zTf ci k) = true)) ∧ (zCs ci k = 0 ∨ zTy ci k = 2)
set_option maxRecDepth 100000 in
theorem zcf_0_0 : zCf 0 0 := ⟨zch1 (List.mem_of_getElem? (i := 80) rfl), by decide +kernel, rfl, Or.inr (Or.inr ⟨rfl, by decide +kernel⟩), by decide⟩
set_option maxRecDepth 100000 in
theorem zcf_0_1 : zCf 0 1 := ⟨zch1 (List.mem_of_getElem? (i := 82) rfl), by decide +kernel, rfl, Or.inl ⟨rfl, by decide +kernel⟩, by decide⟩
set_option maxRecDepth 100000 in
theorem zcf_0 {k : Nat} (h : k < (zT3 0).2.2) : zCf 0 k := by
  have h1 : k < 2 := h
  have h0 : 0 ≤ k := Nat.zero_le k
  rcases Nat.lt_or_ge k 1 with h1 | h0
  · have e : k = 0 := by omega
    subst e
    exact zcf_0_0
  · have e : k = 1 := by omega
    subst e
    exact zcf_0_1
set_option maxRecDepth 100000 in
theorem zcf_1_0 : zCf 1 0 := ⟨zch0 (List.mem_of_getElem? (i := 89) rfl), by decide +kernel, rfl, Or.inr (Or.inr ⟨rfl, by decide +kernel⟩), by decide⟩
set_option maxRecDepth 100000 in
theorem zcf_1_1 : zCf 1 1 := ⟨zch0 (List.mem_of_getElem? (i := 91) rfl), by decide +kernel, rfl, Or.inr (Or.inr ⟨rfl, by decide +kernel⟩), by decide⟩
set_option maxRecDepth 100000 in
theorem zcf_1_2 : zCf 1 2 := ⟨zch0 (List.mem_of_getElem? (i := 93) rfl), by decide +kernel, rfl, Or.inl ⟨rfl, by decide +kernel⟩, by decide⟩
set_option maxRecDepth 100000 in
theorem zcf_1_3 : zCf 1 3 := ⟨zch0 (List.mem_of_getElem? (i := 95) rfl), by decide +kernel, rfl, Or.inl ⟨rfl, by decide +kernel⟩, by decide⟩
set_option maxRecDepth 100000 in
theorem zcf_1_4 : zCf 1 4 := ⟨zch0 (List.mem_of_getElem? (i := 97) rfl), by decide +kernel, rfl, Or.inl ⟨rfl, by decide +kernel⟩, by decide⟩
set_option maxRecDepth 100000 in
theorem zcf_1_5 : zCf 1 5 := ⟨zch0 (List.mem_of_getElem? (i := 99) rfl), by decide +kernel, rfl, Or.inl ⟨rfl, by decide +kernel⟩, by decide⟩
set_option maxRecDepth 100000 in
theorem zcf_1_6 : zCf 1 6 := ⟨zch0 (List.mem_of_getElem? (i := 101) rfl), by decide +kernel, rfl, Or.inr (Or.inr ⟨rfl, by decide +kernel⟩), by decide⟩
set_option maxRecDepth 100000 in
theorem zcf_1_7 : zCf 1 7 := ⟨zch0 (List.mem_of_getElem? (i := 103) rfl), by decide +kernel, rfl, Or.inr (Or.inr ⟨rfl, by decide +kernel⟩), by decide⟩
set_option maxRecDepth 100000 in
theorem zcf_1_8 : zCf 1 8 := ⟨zch0 (List.mem_of_getElem? (i := 105) rfl), by decide +kernel, rfl, Or.inr (Or.inr ⟨rfl, by decide +kernel⟩), by decide⟩
set_option maxRecDepth 100000 in
theorem zcf_1_9 : zCf 1 9 := ⟨zch0 (List.mem_of_getElem? (i := 107) rfl), by decide +kernel, rfl, Or.inr (Or.inr ⟨rfl, by decide +kernel⟩), by decide⟩
set_option maxRecDepth 100000 in
theorem zcf_1_10 : zCf 1 10 := ⟨zch0 (List.mem_of_getElem? (i := 109) rfl), by decide +kernel, rfl, Or.inl ⟨rfl, by decide +kernel⟩, by decide⟩
set_option maxRecDepth 100000 in
theorem zcf_1_11 : zCf 1 11 := ⟨zch0 (List.mem_of_getElem? (i := 111) rfl), by decide +kernel, rfl, Or.inl ⟨rfl, by decide +kernel⟩, by decide⟩
set_option maxRecDepth 100000 in
theorem zcf_1 {k : Nat} (h : k < (zT3 1).2.2) : zCf 1 k := by
  have h1 : k < 12 := h
  have h0 : 0 ≤ k := Nat.zero_le k
  rcases Nat.lt_or_ge k 6 with h1 | h0
  · rcases Nat.lt_or_ge k 3 with h1 | h0
    · rcases Nat.lt_or_ge k 1 with h1 | h0
      · have e : k = 0 := by omega
        subst e
        exact zcf_1_0
      · rcases Nat.lt_or_ge k 2 with h1 | h0
        · have e : k = 1 := by omega
          subst e
          exact zcf_1_1
        · have e : k = 2 := by omega
          subst e
          exact zcf_1_2
    · rcases Nat.lt_or_ge k 4 with h1 | h0
      · have e : k = 3 := by omega
        subst e
        exact zcf_1_3
      · rcases Nat.lt_or_ge k 5 with h1 | h0
        · have e : k = 4 := by omega
          subst e
          exact zcf_1_4
        · have e : k = 5 := by omega
          subst e
          exact zcf_1_5
  · rcases Nat.lt_or_ge k 9 with h1 | h0
    · rcases Nat.lt_or_ge k 7 with h1 | h0
      · have e : k = 6 := by omega
        subst e
        exact zcf_1_6
      · rcases Nat.lt_or_ge k 8 with h1 | h0
        · have e : k = 7 := by omega
          subst e
          exact zcf_1_7
        · have e : k = 8 := by omega
          subst e
          exact zcf_1_8
    · rcases Nat.lt_or_ge k 10 with h1 | h0
      · have e : k = 9 := by omega
        subst e
        exact zcf_1_9
      · rcases Nat.lt_or_ge k 11 with h1 | h0
        · have e : k = 10 := by omega
          subst e
          exact zcf_1_10
        · have e : k = 11 := by omega
          subst e
          exact zcf_1_11
set_option maxRecDepth 100000 in
theorem zcf_2_0 : zCf 2 0 := ⟨zch0 (List.mem_of_getElem? (i := 182) rfl), by decide +kernel, rfl, Or.inl ⟨rfl, by decide +kernel⟩, by decide⟩
set_option maxRecDepth 100000 in
theorem zcf_2_1 : zCf 2 1 := ⟨zch0 (List.mem_of_getElem? (i := 184) rfl), by decide +kernel, rfl, Or.inl ⟨rfl, by decide +kernel⟩, by decide⟩
set_option maxRecDepth 100000 in
theorem zcf_2 {k : Nat} (h : k < (zT3 2).2.2) : zCf 2 k := by
  have h1 : k < 2 := h
  have h0 : 0 ≤ k := Nat.zero_le k
  rcases Nat.lt_or_ge k 1 with h1 | h0
  · have e : k = 0 := by omega
    subst e
    exact zcf_2_0
  · have e : k = 1 := by omega
    subst e
    exact zcf_2_1
set_option maxRecDepth 100000 in
theorem zcf_3_0 : zCf 3 0 := ⟨zch1 (List.mem_of_getElem? (i := 27) rfl), by decide +kernel, rfl, Or.inr (Or.inr ⟨rfl, by decide +kernel⟩), by decide⟩
set_option maxRecDepth 100000 in
theorem zcf_3_1 : zCf 3 1 := ⟨zch1 (List.mem_of_getElem? (i := 29) rfl), by decide +kernel, rfl, Or.inr (Or.inr ⟨rfl, by decide +kernel⟩), by decide⟩
set_option maxRecDepth 100000 in
theorem zcf_3_2 : zCf 3 2 := ⟨zch1 (List.mem_of_getElem? (i := 31) rfl), by decide +kernel, rfl, Or.inr (Or.inr ⟨rfl, by decide +kernel⟩), by decide⟩
set_option maxRecDepth 100000 in
theorem zcf_3_3 : zCf 3 3 := ⟨zch1 (List.mem_of_getElem? (i := 33) rfl), by decide +kernel, rfl, Or.inl ⟨rfl, by decide +kernel⟩, by decide⟩
set_option maxRecDepth 100000 in
theorem zcf_3 {k : Nat} (h : k < (zT3 3).2.2) : zCf 3 k := by
  have h1 : k < 4 := h
  have h0 : 0 ≤ k := Nat.zero_le k
  rcases Nat.lt_or_ge k 2 with h1 | h0
  · rcases Nat.lt_or_ge k 1 with h1 | h0
    · have e : k = 0 := by omega
      subst e
      exact zcf_3_0
    · have e : k = 1 := by omega
      subst e
      exact zcf_3_1
  · rcases Nat.lt_or_ge k 3 with h1 | h0
    · have e : k = 2 := by omega
      subst e
      exact zcf_3_2
    · have e : k = 3 := by omega
      subst e
      exact zcf_3_3
set_option maxRecDepth 100000 in
theorem zcf_4_0 : zCf 4 0 := ⟨zch1 (List.mem_of_getElem? (i := 56) rfl), by decide +kernel, rfl, Or.inr (Or.inr ⟨rfl, by decide +kernel⟩), by decide⟩
set_option maxRecDepth 100000 in
theorem zcf_4_1 : zCf 4 1 := ⟨zch1 (List.mem_of_getElem? (i := 58) rfl), by decide +kernel, rfl, Or.inr (Or.inr ⟨rfl, by decide +kernel⟩), by decide⟩
set_option maxRecDepth 100000 in
theorem zcf_4_2 : zCf 4 2 := ⟨zch1 (List.mem_of_getElem? (i := 60) rfl), by decide +kernel, rfl, Or.inr (Or.inr ⟨rfl, by decide +kernel⟩), by decide⟩
set_option maxRecDepth 100000 in
theorem zcf_4_3 : zCf 4 3 := ⟨zch1 (List.mem_of_getElem? (i := 62) rfl), by decide +kernel, rfl, Or.inr (Or.inr ⟨rfl, by decide +kernel⟩), by decide⟩
set_option maxRecDepth 100000 in
theorem zcf_4_4 : zCf 4 4 := ⟨zch1 (List.mem_of_getElem? (i := 64) rfl), by decide +kernel, rfl, Or.inr (Or.inr ⟨rfl, by decide +kernel⟩), by decide⟩
set_option maxRecDepth 100000 in
theorem zcf_4_5 : zCf 4 5 := ⟨zch1 (List.mem_of_getElem? (i := 66) rfl), by decide +kernel, rfl, Or.inl ⟨rfl, by decide +kernel⟩, by decide⟩
set_option maxRecDepth 100000 in
theorem zcf_4_6 : zCf 4 6 := ⟨zch1 (List.mem_of_getElem? (i := 68) rfl), by decide +kernel, rfl, Or.inl ⟨rfl, by decide +kernel⟩, by decide⟩
set_option maxRecDepth 100000 in
theorem zcf_4 {k : Nat} (h : k < (zT3 4).2.2) : zCf 4 k := by
  have h1 : k < 7 := h
  have h0 : 0 ≤ k := Nat.zero_le k
  rcases Nat.lt_or_ge k 3 with h1 | h0
  · rcases Nat.lt_or_ge k 1 with h1 | h0
    · have e : k = 0 := by omega
      subst e
      exact zcf_4_0
    · rcases Nat.lt_or_ge k 2 with h1 | h0
      · have e : k = 1 := by omega
        subst e
        exact zcf_4_1
      · have e : k = 2 := by omega
        subst e
        exact zcf_4_2
  · rcases Nat.lt_or_ge k 5 with h1 | h0
    · rcases Nat.lt_or_ge k 4 with h1 | h0
      · have e : k = 3 := by omega
        subst e
        exact zcf_4_3
      · have e : k = 4 := by omega
        subst e
        exact zcf_4_4
    · rcases Nat.lt_or_ge k 6 with h1 | h0
      · have e : k = 5 := by omega
        subst e
        exact zcf_4_5
      · have e : k = 6 := by omega
        subst e
        exact zcf_4_6
set_option maxRecDepth 100000 in
theorem zcf_5_0 : zCf 5 0 := ⟨zch0 (List.mem_of_getElem? (i := 167) rfl), by decide +kernel, rfl, Or.inr (Or.inr ⟨rfl, by decide +kernel⟩), by decide⟩
set_option maxRecDepth 100000 in
theorem zcf_5_1 : zCf 5 1 := ⟨zch0 (List.mem_of_getElem? (i := 169) rfl), by decide +kernel, rfl, Or.inr (Or.inr ⟨rfl, by decide +kernel⟩), by decide⟩
set_option maxRecDepth 100000 in
theorem zcf_5 {k : Nat} (h : k < (zT3 5).2.2) : zCf 5 k := by
  have h1 : k < 2 := h
  have h0 : 0 ≤ k := Nat.zero_le k
  rcases Nat.lt_or_ge k 1 with h1 | h0
  · have e : k = 0 := by omega
    subst e
    exact zcf_5_0
  · have e : k = 1 := by omega
    subst e
    exact zcf_5_1
set_option maxRecDepth 100000 in
theorem zcf_6_0 : zCf 6 0 := ⟨zch0 (List.mem_of_getElem? (i := 226) rfl), by decide +kernel, rfl, Or.inr (Or.inr ⟨rfl, by decide +kernel⟩), by decide⟩
set_option maxRecDepth 100000 in
theorem zcf_6_1 : zCf 6 1 := ⟨zch0 (List.mem_of_getElem? (i := 228) rfl), by decide +kernel, rfl, Or.inr (Or.inr ⟨rfl, by decide +kernel⟩), by decide⟩
set_option maxRecDepth 100000 in
theorem zcf_6_2 : zCf 6 2 := ⟨zch0 (List.mem_of_getElem? (i := 230) rfl), by decide +kernel, rfl, Or.inr (Or.inr ⟨rfl, by decide +kernel⟩), by decide⟩
set_option maxRecDepth 100000 in
theorem zcf_6_3 : zCf 6 3 := ⟨zch0 (List.mem_of_getElem? (i := 232) rfl), by decide +kernel, rfl, Or.inr (Or.inr ⟨rfl, by decide +kernel⟩), by decide⟩
set_option maxRecDepth 100000 in
theorem zcf_6_4 : zCf 6 4 := ⟨zch0 (List.mem_of_getElem? (i := 234) rfl), by decide +kernel, rfl, Or.inr (Or.inr ⟨rfl, by decide +kernel⟩), by decide⟩
set_option maxRecDepth 100000 in
theorem zcf_6_5 : zCf 6 5 := ⟨zch0 (List.mem_of_getElem? (i := 236) rfl), by decide +kernel, rfl, Or.inr (Or.inr ⟨rfl, by decide +kernel⟩), by decide⟩
set_option maxRecDepth 100000 in
theorem zcf_6_6 : zCf 6 6 := ⟨zch0 (List.mem_of_getElem? (i := 238) rfl), by decide +kernel, rfl, Or.inr (Or.inr ⟨rfl, by decide +kernel⟩), by decide⟩
set_option maxRecDepth 100000 in
theorem zcf_6_7 : zCf 6 7 := ⟨zch1 (List.mem_of_getElem? (i := 0) rfl), by decide +kernel, rfl, Or.inr (Or.inr ⟨rfl, by decide +kernel⟩), by decide⟩
set_option maxRecDepth 100000 in
theorem zcf_6_8 : zCf 6 8 := ⟨zch1 (List.mem_of_getElem? (i := 2) rfl), by decide +kernel, rfl, Or.inl ⟨rfl, by decide +kernel⟩, by decide⟩
set_option maxRecDepth 100000 in
theorem zcf_6_9 : zCf 6 9 := ⟨zch1 (List.mem_of_getElem? (i := 4) rfl), by decide +kernel, rfl, Or.inl ⟨rfl, by decide +kernel⟩, by decide⟩
set_option maxRecDepth 100000 in
theorem zcf_6_10 : zCf 6 10 := ⟨zch1 (List.mem_of_getElem? (i := 6) rfl), by decide +kernel, rfl, Or.inl ⟨rfl, by decide +kernel⟩, by decide⟩
set_option maxRecDepth 100000 in
theorem zcf_6_11 : zCf 6 11 := ⟨zch1 (List.mem_of_getElem? (i := 8) rfl), by decide +kernel, rfl, Or.inl ⟨rfl, by decide +kernel⟩, by decide⟩
set_option maxRecDepth 100000 in
theorem zcf_6_12 : zCf 6 12 := ⟨zch1 (List.mem_of_getElem? (i := 10) rfl), by decide +kernel, rfl, Or.inl ⟨rfl, by decide +kernel⟩, by decide⟩
set_option maxRecDepth 100000 in
theorem zcf_6 {k : Nat} (h : k < (zT3 6).2.2) : zCf 6 k := by
  have h1 : k < 13 := h
  have h0 : 0 ≤ k := Nat.zero_le k
  rcases Nat.lt_or_ge k 6 with h1 | h0
  · rcases Nat.lt_or_ge k 3 with h1 | h0
    · rcases Nat.lt_or_ge k 1 with h1 | h0
      · have e : k = 0 := by omega
        subst e
        exact zcf_6_0
      · rcases Nat.lt_or_ge k 2 with h1 | h0
        · have e : k = 1 := by omega
          subst e
          exact zcf_6_1
        · have e : k = 2 := by omega
          subst e
          exact zcf_6_2
    · rcases Nat.lt_or_ge k 4 with h1 | h0
      · have e : k = 3 := by omega
        subst e
        exact zcf_6_3
      · rcases Nat.lt_or_ge k 5 with h1 | h0
        · have e : k = 4 := by omega
          subst e
          exact zcf_6_4
        · have e : k = 5 := by omega
          subst e
          exact zcf_6_5
  · rcases Nat.lt_or_ge k 9 with h1 | h0
    · rcases Nat.lt_or_ge k 7 with h1 | h0
      · have e : k = 6 := by omega
        subst e
        exact zcf_6_6
      · rcases Nat.lt_or_ge k 8 with h1 | h0
        · have e : k = 7 := by omega
          subst e
          exact zcf_6_7
        · have e : k = 8 := by omega
          subst e
          exact zcf_6_8
    · rcases Nat.lt_or_ge k 11 with h1 | h0
      · rcases Nat.lt_or_ge k 10 with h1 | h0
        · have e : k = 9 := by omega
          subst e
          exact zcf_6_9
        · have e : k = 10 := by omega
          subst e
          exact zcf_6_10
      · rcases Nat.lt_or_ge k 12 with h1 | h0
        · have e : k = 11 := by omega
          subst e
          exact zcf_6_11
        · have e : k = 12 := by omega
          subst e
          exact zcf_6_12
set_option maxRecDepth 100000 in
theorem zcf_7_0 : zCf 7 0 := ⟨zch0 (List.mem_of_getElem? (i := 136) rfl), by decide +kernel, rfl, Or.inr (Or.inr ⟨rfl, by decide +kernel⟩), by decide⟩
set_option maxRecDepth 100000 in
theorem zcf_7_1 : zCf 7 1 := ⟨zch0 (List.mem_of_getElem? (i := 138) rfl), by decide +kernel, rfl, Or.inr (Or.inr ⟨rfl, by decide +kernel⟩), by decide⟩
set_option maxRecDepth 100000 in
theorem zcf_7_2 : zCf 7 2 := ⟨zch0 (List.mem_of_getElem? (i := 140) rfl), by decide +kernel, rfl, Or.inr (Or.inr ⟨rfl, by decide +kernel⟩), by decide⟩
set_option maxRecDepth 100000 in
theorem zcf_7_3 : zCf 7 3 := ⟨zch0 (List.mem_of_getElem? (i := 142) rfl), by decide +kernel, rfl, Or.inr (Or.inr ⟨rfl, by decide +kernel⟩), by decide⟩
set_option maxRecDepth 100000 in
theorem zcf_7_4 : zCf 7 4 := ⟨zch0 (List.mem_of_getElem? (i := 144) rfl), by decide +kernel, rfl, Or.inr (Or.inr ⟨rfl, by decide +kernel⟩), by decide⟩
set_option maxRecDepth 100000 in
theorem zcf_7_5 : zCf 7 5 := ⟨zch0 (List.mem_of_getElem? (i := 146) rfl), by decide +kernel, rfl, Or.inr (Or.inr ⟨rfl, by decide +kernel⟩), by decide⟩
set_option maxRecDepth 100000 in
theorem zcf_7_6 : zCf 7 6 := ⟨zch0 (List.mem_of_getElem? (i := 148) rfl), by decide +kernel, rfl, Or.inr (Or.inr ⟨rfl, by decide +kernel⟩), by decide⟩
set_option maxRecDepth 100000 in
theorem zcf_7_7 : zCf 7 7 := ⟨zch0 (List.mem_of_getElem? (i := 150) rfl), by decide +kernel, rfl, Or.inr (Or.inr ⟨rfl, by decide +kernel⟩), by decide⟩
set_option maxRecDepth 100000 in
theorem zcf_7_8 : zCf 7 8 := ⟨zch0 (List.mem_of_getElem? (i := 152) rfl), by decide +kernel, rfl, Or.inr (Or.inl ⟨rfl, by decide +kernel⟩), by decide⟩
set_option maxRecDepth 100000 in
theorem zcf_7_9 : zCf 7 9 := ⟨zch0 (List.mem_of_getElem? (i := 154) rfl), by decide +kernel, rfl, Or.inl ⟨rfl, by decide +kernel⟩, by decide⟩
set_option maxRecDepth 100000 in
theorem zcf_7_10 : zCf 7 10 := ⟨zch0 (List.mem_of_getElem? (i := 156) rfl), by decide +kernel, rfl, Or.inl ⟨rfl, by decide +kernel⟩, by decide⟩
set_option maxRecDepth 100000 in
theorem zcf_7 {k : Nat} (h : k < (zT3 7).2.2) : zCf 7 k := by
  have h1 : k < 11 := h
  have h0 : 0 ≤ k := Nat.zero_le k
  rcases Nat.lt_or_ge k 5 with h1 | h0
  · rcases Nat.lt_or_ge k 2 with h1 | h0
    · rcases Nat.lt_or_ge k 1 with h1 | h0
      · have e : k = 0 := by omega
        subst e
        exact zcf_7_0
      · have e : k = 1 := by omega
        subst e
        exact zcf_7_1
    · rcases Nat.lt_or_ge k 3 with h1 | h0
      · have e : k = 2 := by omega
        subst e
        exact zcf_7_2
      · rcases Nat.lt_or_ge k 4 with h1 | h0
        · have e : k = 3 := by omega
          subst e
          exact zcf_7_3
        · have e : k = 4 := by omega
          subst e
          exact zcf_7_4
  · rcases Nat.lt_or_ge k 8 with h1 | h0
    · rcases Nat.lt_or_ge k 6 with h1 | h0
      · have e : k = 5 := by omega
        subst e
        exact zcf_7_5
      · rcases Nat.lt_or_ge k 7 with h1 | h0
        · have e : k = 6 := by omega
          subst e
          exact zcf_7_6
        · have e : k = 7 := by omega
          subst e
          exact zcf_7_7
    · rcases Nat.lt_or_ge k 9 with h1 | h0
      · have e : k = 8 := by omega
        subst e
        exact zcf_7_8
      · rcases Nat.lt_or_ge k 10 with h1 | h0
        · have e : k = 9 := by omega
          subst e
          exact zcf_7_9
        · have e : k = 10 := by omega
          subst e
          exact zcf_7_10
set_option maxRecDepth 100000 in
theorem zcf_8_0 : zCf 8 0 := ⟨zch0 (List.mem_of_getElem? (i := 49) rfl), by decide +kernel, rfl, Or.inr (Or.inr ⟨rfl, by decide +kernel⟩), by decide⟩
set_option maxRecDepth 100000 in
theorem zcf_8_1 : zCf 8 1 := ⟨zch0 (List.mem_of_getElem? (i := 51) rfl), by decide +kernel, rfl, Or.inl ⟨rfl, by decide +kernel⟩, by decide⟩
set_option maxRecDepth 100000 in
theorem zcf_8_2 : zCf 8 2 := ⟨zch0 (List.mem_of_getElem? (i := 53) rfl), by decide +kernel, rfl, Or.inl ⟨rfl, by decide +kernel⟩, by decide⟩
set_option maxRecDepth 100000 in
theorem zcf_8_3 : zCf 8 3 := ⟨zch0 (List.mem_of_getElem? (i := 55) rfl), by decide +kernel, rfl, Or.inl ⟨rfl, by decide +kernel⟩, by decide⟩
set_option maxRecDepth 100000 in
theorem zcf_8_4 : zCf 8 4 := ⟨zch0 (List.mem_of_getElem? (i := 57) rfl), by decide +kernel, rfl, Or.inl ⟨rfl, by decide +kernel⟩, by decide⟩
set_option maxRecDepth 100000 in
theorem zcf_8_5 : zCf 8 5 := ⟨zch0 (List.mem_of_getElem? (i := 59) rfl), by decide +kernel, rfl, Or.inl ⟨rfl, by decide +kernel⟩, by decide⟩
set_option maxRecDepth 100000 in
theorem zcf_8_6 : zCf 8 6 := ⟨zch0 (List.mem_of_getElem? (i := 61) rfl), by decide +kernel, rfl, Or.inl ⟨rfl, by decide +kernel⟩, by decide⟩
set_option maxRecDepth 100000 in
theorem zcf_8 {k : Nat} (h : k < (zT3 8).2.2) : zCf 8 k := by
  have h1 : k < 7 := h
  have h0 : 0 ≤ k := Nat.zero_le k
  rcases Nat.lt_or_ge k 3 with h1 | h0
  · rcases Nat.lt_or_ge k 1 with h1 | h0
    · have e : k = 0 := by omega
      subst e
      exact zcf_8_0
    · rcases Nat.lt_or_ge k 2 with h1 | h0
      · have e : k = 1 := by omega
        subst e
        exact zcf_8_1
      · have e : k = 2 := by omega
        subst e
        exact zcf_8_2
  · rcases Nat.lt_or_ge k 5 with h1 | h0
    · rcases Nat.lt_or_ge k 4 with h1 | h0
      · have e : k = 3 := by omega
        subst e
        exact zcf_8_3
      · have e : k = 4 := by omega
        subst e
        exact zcf_8_4
    · rcases Nat.lt_or_ge k 6 with h1 | h0
      · have e : k = 5 := by omega
        subst e
        exact zcf_8_5
      · have e : k = 6 := by omega
        subst e
        exact zcf_8_6
set_option maxRecDepth 100000 in
theorem zcf_9_0 : zCf 9 0 := ⟨zch1 (List.mem_of_getElem? (i := 104) rfl), by decide +kernel, rfl, Or.inr (Or.inr ⟨rfl, by decide +kernel⟩), by decide⟩
set_option maxRecDepth 100000 in
theorem zcf_9_1 : zCf 9 1 := ⟨zch1 (List.mem_of_getElem? (i := 106) rfl), by decide +kernel, rfl, Or.inr (Or.inr ⟨rfl, by decide +kernel⟩), by decide⟩
set_option maxRecDepth 100000 in
theorem zcf_9_2 : zCf 9 2 := ⟨zch1 (List.mem_of_getElem? (i := 108) rfl), by decide +kernel, rfl, Or.inr (Or.inr ⟨rfl, by decide +kernel⟩), by decide⟩
set_option maxRecDepth 100000 in
theorem zcf_9_3 : zCf 9 3 := ⟨zch1 (List.mem_of_getElem? (i := 110) rfl), by decide +kernel, rfl, Or.inr (Or.inr ⟨rfl, by decide +kernel⟩), by decide⟩
set_option maxRecDepth 100000 in
theorem zcf_9_4 : zCf 9 4 := ⟨zch1 (List.mem_of_getElem? (i := 112) rfl), by decide +kernel, rfl, Or.inr (Or.inr ⟨rfl, by decide +kernel⟩), by decide⟩
set_option maxRecDepth 100000 in
theorem zcf_9_5 : zCf 9 5 := ⟨zch1 (List.mem_of_getElem? (i := 114) rfl), by decide +kernel, rfl, Or.inr (Or.inr ⟨rfl, by decide +kernel⟩), by decide⟩
set_option maxRecDepth 100000 in
theorem zcf_9_6 : zCf 9 6 := ⟨zch1 (List.mem_of_getElem? (i := 116) rfl), by decide +kernel, rfl, Or.inr (Or.inr ⟨rfl, by decide +kernel⟩), by decide⟩
set_option maxRecDepth 100000 in
theorem zcf_9_7 : zCf 9 7 := ⟨zch1 (List.mem_of_getElem? (i := 118) rfl), by decide +kernel, rfl, Or.inr (Or.inr ⟨rfl, by decide +kernel⟩), by decide⟩
set_option maxRecDepth 100000 in
theorem zcf_9_8 : zCf 9 8 := ⟨zch1 (List.mem_of_getElem? (i := 120) rfl), by decide +kernel, rfl, Or.inr (Or.inr ⟨rfl, by decide +kernel⟩), by decide⟩
set_option maxRecDepth 100000 in
theorem zcf_9_9 : zCf 9 9 := ⟨zch1 (List.mem_of_getElem? (i := 122) rfl), by decide +kernel, rfl, Or.inr (Or.inr ⟨rfl, by decide +kernel⟩), by decide⟩
set_option maxRecDepth 100000 in
theorem zcf_9_10 : zCf 9 10 := ⟨zch1 (List.mem_of_getElem? (i := 124) rfl), by decide +kernel, rfl, Or.inr (Or.inr ⟨rfl, by decide +kernel⟩), by decide⟩
set_option maxRecDepth 100000 in
theorem zcf_9_11 : zCf 9 11 := ⟨zch1 (List.mem_of_getElem? (i := 126) rfl), by decide +kernel, rfl, Or.inr (Or.inr ⟨rfl, by decide +kernel⟩), by decide⟩
set_option maxRecDepth 100000 in
theorem zcf_9_12 : zCf 9 12 := ⟨zch1 (List.mem_of_getElem? (i := 128) rfl), by decide +kernel, rfl, Or.inr (Or.inr ⟨rfl, by decide +kernel⟩), by decide⟩
set_option maxRecDepth 100000 in
theorem zcf_9_13 : zCf 9 13 := ⟨zch1 (List.mem_of_getElem? (i := 130) rfl), by decide +kernel, rfl, Or.inr (Or.inr ⟨rfl, by decide +kernel⟩), by decide⟩
set_option maxRecDepth 100000 in
theorem zcf_9_14 : zCf 9 14 := ⟨zch1 (List.mem_of_getElem? (i := 132) rfl), by decide +kernel, rfl, Or.inl ⟨rfl, by decide +kernel⟩, by decide⟩
set_option maxRecDepth 100000 in
theorem zcf_9_15 : zCf 9 15 := ⟨zch1 (List.mem_of_getElem? (i := 134) rfl), by decide +kernel, rfl, Or.inl ⟨rfl, by decide +kernel⟩, by decide⟩
set_option maxRecDepth 100000 in
theorem zcf_9_16 : zCf 9 16 := ⟨zch1 (List.mem_of_getElem? (i := 136) rfl), by decide +kernel, rfl, Or.inl ⟨rfl, by decide +kernel⟩, by decide⟩
set_option maxRecDepth 100000 in
theorem zcf_9_17 : zCf 9 17 := ⟨zch1 (List.mem_of_getElem? (i := 138) rfl), by decide +kernel, rfl, Or.inl ⟨rfl, by decide +kernel⟩, by decide⟩
set_option maxRecDepth 100000 in
theorem zcf_9 {k : Nat} (h : k < (zT3 9).2.2) : zCf 9 k := by
  have h1 : k < 18 := h
  have h0 : 0 ≤ k := Nat.zero_le k
  rcases Nat.lt_or_ge k 9 with h1 | h0
  · rcases Nat.lt_or_ge k 4 with h1 | h0
    · rcases Nat.lt_or_ge k 2 with h1 | h0
      · rcases Nat.lt_or_ge k 1 with h1 | h0
        · have e : k = 0 := by omega
          subst e
          exact zcf_9_0
        · have e : k = 1 := by omega
          subst e
          exact zcf_9_1
      · rcases Nat.lt_or_ge k 3 with h1 | h0
        · have e : k = 2 := by omega
          subst e
          exact zcf_9_2
        · have e : k = 3 := by omega
          subst e
          exact zcf_9_3
    · rcases Nat.lt_or_ge k 6 with h1 | h0
      · rcases Nat.lt_or_ge k 5 with h1 | h0
        · have e : k = 4 := by omega
          subst e
          exact zcf_9_4
        · have e : k = 5 := by omega
          subst e
          exact zcf_9_5
      · rcases Nat.lt_or_ge k 7 with h1 | h0
        · have e : k = 6 := by omega
          subst e
          exact zcf_9_6
        · rcases Nat.lt_or_ge k 8 with h1 | h0
          · have e : k = 7 := by omega
            subst e
            exact zcf_9_7
          · have e : k = 8 := by omega
            subst e
            exact zcf_9_8
  · rcases Nat.lt_or_ge k 13 with h1 | h0
    · rcases Nat.lt_or_ge k 11 with h1 | h0
      · rcases Nat.lt_or_ge k 10 with h1 | h0
        · have e : k = 9 := by omega
          subst e
          exact zcf_9_9
        · have e : k = 10 := by omega
          subst e
          exact zcf_9_10
      · rcases Nat.lt_or_ge k 12 with h1 | h0
        · have e : k = 11 := by omega
          subst e
          exact zcf_9_11
        · have e : k = 12 := by omega
          subst e
          exact zcf_9_12
    · rcases Nat.lt_or_ge k 15 with h1 | h0
      · rcases Nat.lt_or_ge k 14 with h1 | h0
        · have e : k = 13 := by omega
          subst e
          exact zcf_9_13
        · have e : k = 14 := by omega
          subst e
          exact zcf_9_14
      · rcases Nat.lt_or_ge k 16 with h1 | h0
        · have e : k = 15 := by omega
          subst e
          exact zcf_9_15
        · rcases Nat.lt_or_ge k 17 with h1 | h0
          · have e : k = 16 := by omega
            subst e
            exact zcf_9_16
          · have e : k = 17 := by omega
            subst e
            exact zcf_9_17
set_option maxRecDepth 100000 in
theorem zcf_10_0 : zCf 10 0 := ⟨zch6 (List.mem_of_getElem? (i := 41) rfl), by decide +kernel, rfl, Or.inl ⟨rfl, by decide +kernel⟩, by decide⟩
set_option maxRecDepth 100000 in
theorem zcf_10_1 : zCf 10 1 := ⟨zch6 (List.mem_of_getElem? (i := 43) rfl), by decide +kernel, rfl, Or.inr (Or.inr ⟨rfl, by decide +kernel⟩), by decide⟩
set_option maxRecDepth 100000 in
theorem zcf_10_2 : zCf 10 2 := ⟨zch6 (List.mem_of_getElem? (i := 45) rfl), by decide +kernel, rfl, Or.inl ⟨rfl, by decide +kernel⟩, by decide⟩
set_option maxRecDepth 100000 in
theorem zcf_10_3 : zCf 10 3 := ⟨zch6 (List.mem_of_getElem? (i := 47) rfl), by decide +kernel, rfl, Or.inl ⟨rfl, by decide +kernel⟩, by decide⟩
set_option maxRecDepth 100000 in
theorem zcf_10_4 : zCf 10 4 := ⟨zch6 (List.mem_of_getElem? (i := 49) rfl), by decide +kernel, rfl, Or.inl ⟨rfl, by decide +kernel⟩, by decide⟩
set_option maxRecDepth 100000 in
theorem zcf_10_5 : zCf 10 5 := ⟨zch6 (List.mem_of_getElem? (i := 51) rfl), by decide +kernel, rfl, Or.inl ⟨rfl, by decide +kernel⟩, by decide⟩
set_option maxRecDepth 100000 in
theorem zcf_10_6 : zCf 10 6 := ⟨zch6 (List.mem_of_getElem? (i := 53) rfl), by decide +kernel, rfl, Or.inl ⟨rfl, by decide +kernel⟩, by decide⟩
set_option maxRecDepth 100000 in
theorem zcf_10_7 : zCf 10 7 := ⟨zch6 (List.mem_of_getElem? (i := 55) rfl), by decide +kernel, rfl, Or.inl ⟨rfl, by decide +kernel⟩, by decide⟩
set_option maxRecDepth 100000 in
theorem zcf_10_8 : zCf 10 8 := ⟨zch6 (List.mem_of_getElem? (i := 57) rfl), by decide +kernel, rfl, Or.inl ⟨rfl, by decide +kernel⟩, by decide⟩
set_option maxRecDepth 100000 in
theorem zcf_10_9 : zCf 10 9 := ⟨zch6 (List.mem_of_getElem? (i := 59) rfl), by decide +kernel, rfl, Or.inr (Or.inr ⟨rfl, by decide +kernel⟩), by decide⟩
set_option maxRecDepth 100000 in
theorem zcf_10_10 : zCf 10 10 := ⟨zch6 (List.mem_of_getElem? (i := 61) rfl), by decide +kernel, rfl, Or.inr (Or.inr ⟨rfl, by decide +kernel⟩), by decide⟩
set_option maxRecDepth 100000 in
theorem zcf_10_11 : zCf 10 11 := ⟨zch6 (List.mem_of_getElem? (i := 63) rfl), by decide +kernel, rfl, Or.inr (Or.inr ⟨rfl, by decide +kernel⟩), by decide⟩
set_option maxRecDepth 100000 in
theorem zcf_10_12 : zCf 10 12 := ⟨zch6 (List.mem_of_getElem? (i := 65) rfl), by decide +kernel, rfl, Or.inr (Or.inr ⟨rfl, by decide +kernel⟩), by decide⟩
set_option maxRecDepth 100000 in
theorem zcf_10_13 : zCf 10 13 := ⟨zch6 (List.mem_of_getElem? (i := 67) rfl), by decide +kernel, rfl, Or.inr (Or.inr ⟨rfl, by decide +kernel⟩), by decide⟩
set_option maxRecDepth 100000 in
theorem zcf_10_14 : zCf 10 14 := ⟨zch6 (List.mem_of_getElem? (i := 69) rfl), by decide +kernel, rfl, Or.inr (Or.inr ⟨rfl, by decide +kernel⟩), by decide⟩
set_option maxRecDepth 100000 in
theorem zcf_10_15 : zCf 10 15 := ⟨zch6 (List.mem_of_getElem? (i := 71) rfl), by decide +kernel, rfl, Or.inr (Or.inr ⟨rfl, by decide +kernel⟩), by decide⟩
set_option maxRecDepth 100000 in
theorem zcf_10_16 : zCf 10 16 := ⟨zch6 (List.mem_of_getElem? (i := 73) rfl), by decide +kernel, rfl, Or.inr (Or.inr ⟨rfl, by decide +kernel⟩), by decide⟩
set_option maxRecDepth 100000 in
theorem zcf_10_17 : zCf 10 17 := ⟨zch6 (List.mem_of_getElem? (i := 75) rfl), by decide +kernel, rfl, Or.inr (Or.inr ⟨rfl, by decide +kernel⟩), by decide⟩
set_option maxRecDepth 100000 in
theorem zcf_10_18 : zCf 10 18 := ⟨zch6 (List.mem_of_getElem? (i := 77) rfl), by decide +kernel, rfl, Or.inr (Or.inr ⟨rfl, by decide +kernel⟩), by decide⟩
set_option maxRecDepth 100000 in
theorem zcf_10_19 : zCf 10 19 := ⟨zch6 (List.mem_of_getElem? (i := 79) rfl), by decide +kernel, rfl, Or.inr (Or.inr ⟨rfl, by decide +kernel⟩), by decide⟩
set_option maxRecDepth 100000 in
theorem zcf_10_20 : zCf 10 20 := ⟨zch6 (List.mem_of_getElem? (i := 81) rfl), by decide +kernel, rfl, Or.inr (Or.inr ⟨rfl, by decide +kernel⟩), by decide⟩
set_option maxRecDepth 100000 in
theorem zcf_10_21 : zCf 10 21 := ⟨zch6 (List.mem_of_getElem? (i := 83) rfl), by decide +kernel, rfl, Or.inr (Or.inr ⟨rfl, by decide +kernel⟩), by decide⟩
set_option maxRecDepth 100000 in
theorem zcf_10_22 : zCf 10 22 := ⟨zch6 (List.mem_of_getElem? (i := 85) rfl), by decide +kernel, rfl, Or.inr (Or.inr ⟨rfl, by decide +kernel⟩), by decide⟩
set_option maxRecDepth 100000 in
theorem zcf_10_23 : zCf 10 23 := ⟨zch6 (List.mem_of_getElem? (i := 87) rfl), by decide +kernel, rfl, Or.inr (Or.inr ⟨rfl, by decide +kernel⟩), by decide⟩
set_option maxRecDepth 100000 in
theorem zcf_10_24 : zCf 10 24 := ⟨zch6 (List.mem_of_getElem? (i := 89) rfl), by decide +kernel, rfl, Or.inr (Or.inr ⟨rfl, by decide +kernel⟩), by decide⟩
set_option maxRecDepth 100000 in
theorem zcf_10_25 : zCf 10 25 := ⟨zch6 (List.mem_of_getElem? (i := 91) rfl), by decide +kernel, rfl, Or.inr (Or.inr ⟨rfl, by decide +kernel⟩), by decide⟩
set_option maxRecDepth 100000 in
theorem zcf_10_26 : zCf 10 26 := ⟨zch6 (List.mem_of_getElem? (i := 93) rfl), by decide +kernel, rfl, Or.inl ⟨rfl, by decide +kernel⟩, by decide⟩
set_option maxRecDepth 100000 in
theorem zcf_10_27 : zCf 10 27 := ⟨zch6 (List.mem_of_getElem? (i := 95) rfl), by decide +kernel, rfl, Or.inl ⟨rfl, by decide +kernel⟩, by decide⟩
set_option maxRecDepth 100000 in
theorem zcf_10_28 : zCf 10 28 := ⟨zch6 (List.mem_of_getElem? (i := 97) rfl), by decide +kernel, rfl, Or.inl ⟨rfl, by decide +kernel⟩, by decide⟩
set_option maxRecDepth 100000 in
theorem zcf_10_29 : zCf 10 29 := ⟨zch6 (List.mem_of_getElem? (i := 99) rfl), by decide +kernel, rfl, Or.inl ⟨rfl, by decide +kernel⟩, by decide⟩
set_option maxRecDepth 100000 in
theorem zcf_10_30 : zCf 10 30 := ⟨zch6 (List.mem_of_getElem? (i := 101) rfl), by decide +kernel, rfl, Or.inl ⟨rfl, by decide +kernel⟩, by decide⟩
set_option maxRecDepth 100000 in
theorem zcf_10_31 : zCf 10 31 := ⟨zch6 (List.mem_of_getElem? (i := 103) rfl), by decide +kernel, rfl, Or.inl ⟨rfl, by decide +kernel⟩, by decide⟩
set_option maxRecDepth 100000 in
theorem zcf_10_32 : zCf 10 32 := ⟨zch6 (List.mem_of_getElem? (i := 105) rfl), by decide +kernel, rfl, Or.inl ⟨rfl, by decide +kernel⟩, by decide⟩
set_option maxRecDepth 100000 in
theorem zcf_10_33 : zCf 10 33 := ⟨zch6 (List.mem_of_getElem? (i := 107) rfl), by decide +kernel, rfl, Or.inl ⟨rfl, by decide +kernel⟩, by decide⟩
set_option maxRecDepth 100000 in
theorem zcf_10_34 : zCf 10 34 := ⟨zch6 (List.mem_of_getElem? (i := 109) rfl), by decide +kernel, rfl, Or.inl ⟨rfl, by decide +kernel⟩, by decide⟩
set_option maxRecDepth 100000 in
theorem zcf_10_35 : zCf 10 35 := ⟨zch6 (List.mem_of_getElem? (i := 111) rfl), by decide +kernel, rfl, Or.inl ⟨rfl, by decide +kernel⟩, by decide⟩
set_option maxRecDepth 100000 in
theorem zcf_10_36 : zCf 10 36 := ⟨zch6 (List.mem_of_getElem? (i := 113) rfl), by decide +kernel, rfl, Or.inl ⟨rfl, by decide +kernel⟩, by decide⟩
set_option maxRecDepth 100000 in
theorem zcf_10_37 : zCf 10 37 := ⟨zch6 (List.mem_of_getElem? (i := 115) rfl), by decide +kernel, rfl, Or.inr (Or.inr ⟨rfl, by decide +kernel⟩), by decide⟩
set_option maxRecDepth 100000 in
theorem zcf_10_38 : zCf 10 38 := ⟨zch6 (List.mem_of_getElem? (i := 117) rfl), by decide +kernel, rfl, Or.inr (Or.inr ⟨rfl, by decide +kernel⟩), by decide⟩
set_option maxRecDepth 100000 in
theorem zcf_10_39 : zCf 10 39 := ⟨zch6 (List.mem_of_getElem? (i := 119) rfl), by decide +kernel, rfl, Or.inr (Or.inr ⟨rfl, by decide +kernel⟩), by decide⟩
set_option maxRecDepth 100000 in
theorem zcf_10_40 : zCf 10 40 := ⟨zch6 (List.mem_of_getElem? (i := 121) rfl), by decide +kernel, rfl, Or.inr (Or.inr ⟨rfl, by decide +kernel⟩), by decide⟩
set_option maxRecDepth 100000 in
theorem zcf_10_41 : zCf 10 41 := ⟨zch6 (List.mem_of_getElem? (i := 123) rfl), by decide +kernel, rfl, Or.inr (Or.inr ⟨rfl, by decide +kernel⟩), by decide⟩
set_option maxRecDepth 100000 in
theorem zcf_10_42 : zCf 10 42 := ⟨zch6 (List.mem_of_getElem? (i := 125) rfl), by decide +kernel, rfl, Or.inl ⟨rfl, by decide +kernel⟩, by decide⟩
set_option maxRecDepth 100000 in
theorem zcf_10_43 : zCf 10 43 := ⟨zch6 (List.mem_of_getElem? (i := 127) rfl), by decide +kernel, rfl, Or.inl ⟨rfl, by decide +kernel⟩, by decide⟩
set_option maxRecDepth 100000 in
theorem zcf_10_44 : zCf 10 44 := ⟨zch6 (List.mem_of_getElem? (i := 129) rfl), by decide +kernel, rfl, Or.inr (Or.inr ⟨rfl, by decide +kernel⟩), by decide⟩
set_option maxRecDepth 100000 in
theorem zcf_10_45 : zCf 10 45 := ⟨zch6 (List.mem_of_getElem? (i := 131) rfl), by decide +kernel, rfl, Or.inr (Or.inr ⟨rfl, by decide +kernel⟩), by decide⟩
set_option maxRecDepth 100000 in
theorem zcf_10_46 : zCf 10 46 := ⟨zch6 (List.mem_of_getElem? (i := 133) rfl), by decide +kernel, rfl, Or.inr (Or.inr ⟨rfl, by decide +kernel⟩), by decide⟩
set_option maxRecDepth 100000 in
theorem zcf_10_47 : zCf 10 47 := ⟨zch6 (List.mem_of_getElem? (i := 135) rfl), by decide +kernel, rfl, Or.inr (Or.inr ⟨rfl, by decide +kernel⟩), by decide⟩
set_option maxRecDepth 100000 in
theorem zcf_10_48 : zCf 10 48 := ⟨zch6 (List.mem_of_getElem? (i := 137) rfl), by decide +kernel, rfl, Or.inr (Or.inr ⟨rfl, by decide +kernel⟩), by decide⟩
set_option maxRecDepth 100000 in
theorem zcf_10_49 : zCf 10 49 := ⟨zch6 (List.mem_of_getElem? (i := 139) rfl), by decide +kernel, rfl, Or.inl ⟨rfl, by decide +kernel⟩, by decide⟩
set_option maxRecDepth 100000 in
theorem zcf_10_50 : zCf 10 50 := ⟨zch6 (List.mem_of_getElem? (i := 141) rfl), by decide +kernel, rfl, Or.inl ⟨rfl, by decide +kernel⟩, by decide⟩
set_option maxRecDepth 100000 in
theorem zcf_10_51 : zCf 10 51 := ⟨zch6 (List.mem_of_getElem? (i := 143) rfl), by decide +kernel, rfl, Or.inr (Or.inr ⟨rfl, by decide +kernel⟩), by decide⟩
set_option maxRecDepth 100000 in
theorem zcf_10_52 : zCf 10 52 := ⟨zch6 (List.mem_of_getElem? (i := 145) rfl), by decide +kernel, rfl, Or.inr (Or.inr ⟨rfl, by decide +kernel⟩), by decide⟩
set_option maxRecDepth 100000 in
theorem zcf_10_53 : zCf 10 53 := ⟨zch6 (List.mem_of_getElem? (i := 147) rfl), by decide +kernel, rfl, Or.inr (Or.inr ⟨rfl, by decide +kernel⟩), by decide⟩
set_option maxRecDepth 100000 in
theorem zcf_10_54 : zCf 10 54 := ⟨zch6 (List.mem_of_getElem? (i := 149) rfl), by decide +kernel, rfl, Or.inr (Or.inr ⟨rfl, by decide +kernel⟩), by decide⟩
set_option maxRecDepth 100000 in
theorem zcf_10_55 : zCf 10 55 := ⟨zch6 (List.mem_of_getElem? (i := 151) rfl), by decide +kernel, rfl, Or.inr (Or.inr ⟨rfl, by decide +kernel⟩), by decide⟩
set_option maxRecDepth 100000 in
theorem zcf_10_56 : zCf 10 56 := ⟨zch6 (List.mem_of_getElem? (i := 153) rfl), by decide +kernel, rfl, Or.inr (Or.inr ⟨rfl, by decide +kernel⟩), by decide⟩
set_option maxRecDepth 100000 in
theorem zcf_10_57 : zCf 10 57 := ⟨zch6 (List.mem_of_getElem? (i := 155) rfl), by decide +kernel, rfl, Or.inr (Or.inr ⟨rfl, by decide +kernel⟩), by decide⟩
set_option maxRecDepth 100000 in
theorem zcf_10_58 : zCf 10 58 := ⟨zch6 (List.mem_of_getElem? (i := 157) rfl), by decide +kernel, rfl, Or.inl ⟨rfl, by decide +kernel⟩, by decide⟩
set_option maxRecDepth 100000 in
theorem zcf_10_59 : zCf 10 59 := ⟨zch6 (List.mem_of_getElem? (i := 159) rfl), by decide +kernel, rfl, Or.inr (Or.inr ⟨rfl, by decide +kernel⟩), by decide⟩
set_option maxRecDepth 100000 in
theorem zcf_10_60 : zCf 10 60 := ⟨zch6 (List.mem_of_getElem? (i := 161) rfl), by decide +kernel, rfl, Or.inr (Or.inr ⟨rfl, by decide +kernel⟩), by decide⟩
set_option maxRecDepth 100000 in
theorem zcf_10_61 : zCf 10 61 := ⟨zch6 (List.mem_of_getElem? (i := 163) rfl), by decide +kernel, rfl, Or.inr (Or.inr ⟨rfl, by decide +kernel⟩), by decide⟩
set_option maxRecDepth 100000 in
theorem zcf_10_62 : zCf 10 62 := ⟨zch6 (List.mem_of_getElem? (i := 165) rfl), by decide +kernel, rfl, Or.inr (Or.inr ⟨rfl, by decide +kernel⟩), by decide⟩
set_option maxRecDepth 100000 in
theorem zcf_10_63 : zCf 10 63 := ⟨zch6 (List.mem_of_getElem? (i := 167) rfl), by decide +kernel, rfl, Or.inl ⟨rfl, by decide +kernel⟩, by decide⟩
set_option maxRecDepth 100000 in
theorem zcf_10_64 : zCf 10 64 := ⟨zch6 (List.mem_of_getElem? (i := 169) rfl), by decide +kernel, rfl, Or.inl ⟨rfl, by decide +kernel⟩, by decide⟩
set_option maxRecDepth 100000 in
theorem zcf_10_65 : zCf 10 65 := ⟨zch6 (List.mem_of_getElem? (i := 171) rfl), by decide +kernel, rfl, Or.inl ⟨rfl, by decide +kernel⟩, by decide⟩
set_option maxRecDepth 100000 in
theorem zcf_10_66 : zCf 10 66 := ⟨zch6 (List.mem_of_getElem? (i := 173) rfl), by decide +kernel, rfl, Or.inl ⟨rfl, by decide +kernel⟩, by decide⟩
set_option maxRecDepth 100000 in
theorem zcf_10_67 : zCf 10 67 := ⟨zch6 (List.mem_of_getElem? (i := 175) rfl), by decide +kernel, rfl, Or.inr (Or.inr ⟨rfl, by decide +kernel⟩), by decide⟩
set_option maxRecDepth 100000 in
theorem zcf_10_68 : zCf 10 68 := ⟨zch6 (List.mem_of_getElem? (i := 177) rfl), by decide +kernel, rfl, Or.inl ⟨rfl, by decide +kernel⟩, by decide⟩
set_option maxRecDepth 100000 in
theorem zcf_10_69 : zCf 10 69 := ⟨zch6 (List.mem_of_getElem? (i := 179) rfl), by decide +kernel, rfl, Or.inr (Or.inr ⟨rfl, by decide +kernel⟩), by decide⟩
set_option maxRecDepth 100000 in
theorem zcf_10_70 : zCf 10 70 := ⟨zch6 (List.mem_of_getElem? (i := 181) rfl), by decide +kernel, rfl, Or.inl ⟨rfl, by decide +kernel⟩, by decide⟩
set_option maxRecDepth 100000 in
theorem zcf_10_71 : zCf 10 71 := ⟨zch6 (List.mem_of_getElem? (i := 183) rfl), by decide +kernel, rfl, Or.inr (Or.inr ⟨rfl, by decide +kernel⟩), by decide⟩
set_option maxRecDepth 100000 in
theorem zcf_10_72 : zCf 10 72 := ⟨zch6 (List.mem_of_getElem? (i := 185) rfl), by decide +kernel, rfl, Or.inl ⟨rfl, by decide +kernel⟩, by decide⟩
set_option maxRecDepth 100000 in
theorem zcf_10 {k : Nat} (h : k < (zT3 10).2.2) : zCf 10 k := by
  have h1 : k < 73 := h
  have h0 : 0 ≤ k := Nat.zero_le k
  rcases Nat.lt_or_ge k 36 with h1 | h0
  · rcases Nat.lt_or_ge k 18 with h1 | h0
    · rcases Nat.lt_or_ge k 9 with h1 | h0
      · rcases Nat.lt_or_ge k 4 with h1 | h0
        · rcases Nat.lt_or_ge k 2 with h1 | h0
          · rcases Nat.lt_or_ge k 1 with h1 | h0
            · have e : k = 0 := by omega
              subst e
              exact zcf_10_0
            · have e : k = 1 := by omega
              subst e
              exact zcf_10_1
          · rcases Nat.lt_or_ge k 3 with h1 | h0
            · have e : k = 2 := by omega
              subst e
              exact zcf_10_2
            · have e : k = 3 := by omega
              subst e
              exact zcf_10_3
        · rcases Nat.lt_or_ge k 6 with h1 | h0
          · rcases Nat.lt_or_ge k 5 with h1 | h0
            · have e : k = 4 := by omega
              subst e
              exact zcf_10_4
            · have e : k = 5 := by omega
              subst e
              exact zcf_10_5
          · rcases Nat.lt_or_ge k 7 with h1 | h0
            · have e : k = 6 := by omega
              subst e
              exact zcf_10_6
            · rcases Nat.lt_or_ge k 8 with h1 | h0
              · have e : k = 7 := by omega
                subst e
                exact zcf_10_7
              · have e : k = 8 := by omega
                subst e
                exact zcf_10_8
      · rcases Nat.lt_or_ge k 13 with h1 | h0
        · rcases Nat.lt_or_ge k 11 with h1 | h0
          · rcases Nat.lt_or_ge k 10 with h1 | h0
            · have e : k = 9 := by omega
              subst e
              exact zcf_10_9
            · have e : k = 10 := by omega
              subst e
              exact zcf_10_10
          · rcases Nat.lt_or_ge k 12 with h1 | h0
            · have e : k = 11 := by omega
              subst e
              exact zcf_10_11
            · have e : k = 12 := by omega
              subst e
              exact zcf_10_12
        · rcases Nat.lt_or_ge k 15 with h1 | h0
          · rcases Nat.lt_or_ge k 14 with h1 | h0
            · have e : k = 13 := by omega
              subst e
              exact zcf_10_13
            · have e : k = 14 := by omega
              subst e
              exact zcf_10_14
          · rcases Nat.lt_or_ge k 16 with h1 | h0
            · have e : k = 15 := by omega
              subst e
              exact zcf_10_15
            · rcases Nat.lt_or_ge k 17 with h1 | h0
              · have e : k = 16 := by omega
                subst e
                exact zcf_10_16
              · have e : k = 17 := by omega
                subst e
                exact zcf_10_17
    · rcases Nat.lt_or_ge k 27 with h1 | h0
      · rcases Nat.lt_or_ge k 22 with h1 | h0
        · rcases Nat.lt_or_ge k 20 with h1 | h0
          · rcases Nat.lt_or_ge k 19 with h1 | h0
            · have e : k = 18 := by omega
              subst e
              exact zcf_10_18
            · have e : k = 19 := by omega
              subst e
              exact zcf_10_19
          · rcases Nat.lt_or_ge k 21 with h1 | h0
            · have e : k = 20 := by omega
              subst e
              exact zcf_10_20
            · have e : k = 21 := by omega
              subst e
              exact zcf_10_21
        · rcases Nat.lt_or_ge k 24 with h1 | h0
          · rcases Nat.lt_or_ge k 23 with h1 | h0
            · have e : k = 22 := by omega
              subst e
              exact zcf_10_22
            · have e : k = 23 := by omega
              subst e
              exact zcf_10_23
          · rcases Nat.lt_or_ge k 25 with h1 | h0
            · have e : k = 24 := by omega
              subst e
              exact zcf_10_24
            · rcases Nat.lt_or_ge k 26 with h1 | h0
              · have e : k = 25 := by omega
                subst e
                exact zcf_10_25
              · have e : k = 26 := by omega
                subst e
                exact zcf_10_26
      · rcases Nat.lt_or_ge k 31 with h1 | h0
        · rcases Nat.lt_or_ge k 29 with h1 | h0
          · rcases Nat.lt_or_ge k 28 with h1 | h0
            · have e : k = 27 := by omega
              subst e
              exact zcf_10_27
            · have e : k = 28 := by omega
              subst e
              exact zcf_10_28
          · rcases Nat.lt_or_ge k 30 with h1 | h0
            · have e : k = 29 := by omega
              subst e
              exact zcf_10_29
            · have e : k = 30 := by omega
              subst e
              exact zcf_10_30
        · rcases Nat.lt_or_ge k 33 with h1 | h0
          · rcases Nat.lt_or_ge k 32 with h1 | h0
            · have e : k = 31 := by omega
              subst e
              exact zcf_10_31
            · have e : k = 32 := by omega
              subst e
              exact zcf_10_32
          · rcases Nat.lt_or_ge k 34 with h1 | h0
            · have e : k = 33 := by omega
              subst e
              exact zcf_10_33
            · rcases Nat.lt_or_ge k 35 with h1 | h0
              · have e : k = 34 := by omega
                subst e
                exact zcf_10_34
              · have e : k = 35 := by omega
                subst e
                exact zcf_10_35
  · rcases Nat.lt_or_ge k 54 with h1 | h0
    · rcases Nat.lt_or_ge k 45 with h1 | h0
      · rcases Nat.lt_or_ge k 40 with h1 | h0
        · rcases Nat.lt_or_ge k 38 with h1 | h0
          · rcases Nat.lt_or_ge k 37 with h1 | h0
            · have e : k = 36 := by omega
              subst e
              exact zcf_10_36
            · have e : k = 37 := by omega
              subst e
              exact zcf_10_37
          · rcases Nat.lt_or_ge k 39 with h1 | h0
            · have e : k = 38 := by omega
              subst e
              exact zcf_10_38
            · have e : k = 39 := by omega
              subst e
              exact zcf_10_39
        · rcases Nat.lt_or_ge k 42 with h1 | h0
          · rcases Nat.lt_or_ge k 41 with h1 | h0
            · have e : k = 40 := by omega
              subst e
              exact zcf_10_40
            · have e : k = 41 := by omega
              subst e
              exact zcf_10_41
          · rcases Nat.lt_or_ge k 43 with h1 | h0
            · have e : k = 42 := by omega
              subst e
              exact zcf_10_42
            · rcases Nat.lt_or_ge k 44 with h1 | h0
              · have e : k = 43 := by omega
                subst e
                exact zcf_10_43
              · have e : k = 44 := by omega
                subst e
                exact zcf_10_44
      · rcases Nat.lt_or_ge k 49 with h1 | h0
        · rcases Nat.lt_or_ge k 47 with h1 | h0
          · rcases Nat.lt_or_ge k 46 with h1 | h0
            · have e : k = 45 := by omega
              subst e
              exact zcf_10_45
            · have e : k = 46 := by omega
              subst e
              exact zcf_10_46
          · rcases Nat.lt_or_ge k 48 with h1 | h0
            · have e : k = 47 := by omega
              subst e
              exact zcf_10_47
            · have e : k = 48 := by omega
              subst e
              exact zcf_10_48
        · rcases Nat.lt_or_ge k 51 with h1 | h0
          · rcases Nat.lt_or_ge k 50 with h1 | h0
            · have e : k = 49 := by omega
              subst e
              exact zcf_10_49
            · have e : k = 50 := by omega
              subst e
              exact zcf_10_50
          · rcases Nat.lt_or_ge k 52 with h1 | h0
            · have e : k = 51 := by omega
              subst e
              exact zcf_10_51
            · rcases Nat.lt_or_ge k 53 with h1 | h0
              · have e : k = 52 := by omega
                subst e
                exact zcf_10_52
              · have e : k = 53 := by omega
                subst e
                exact zcf_10_53
    · rcases Nat.lt_or_ge k 63 with h1 | h0
      · rcases Nat.lt_or_ge k 58 with h1 | h0
        · rcases Nat.lt_or_ge k 56 with h1 | h0
          · rcases Nat.lt_or_ge k 55 with h1 | h0
            · have e : k = 54 := by omega
              subst e
              exact zcf_10_54
            · have e : k = 55 := by omega
              subst e
              exact zcf_10_55
          · rcases Nat.lt_or_ge k 57 with h1 | h0
            · have e : k = 56 := by omega
              subst e
              exact zcf_10_56
            · have e : k = 57 := by omega
              subst e
              exact zcf_10_57
        · rcases Nat.lt_or_ge k 60 with h1 | h0
          · rcases Nat.lt_or_ge k 59 with h1 | h0
            · have e : k = 58 := by omega
              subst e
              exact zcf_10_58
            · have e : k = 59 := by omega
              subst e
              exact zcf_10_59
          · rcases Nat.lt_or_ge k 61 with h1 | h0
            · have e : k = 60 := by omega
              subst e
              exact zcf_10_60
            · rcases Nat.lt_or_ge k 62 with h1 | h0
              · have e : k = 61 := by omega
                subst e
                exact zcf_10_61
              · have e : k = 62 := by omega
                subst e
                exact zcf_10_62
      · rcases Nat.lt_or_ge k 68 with h1 | h0
        · rcases Nat.lt_or_ge k 65 with h1 | h0
          · rcases Nat.lt_or_ge k 64 with h1 | h0
            · have e : k = 63 := by omega
              subst e
              exact zcf_10_63
            · have e : k = 64 := by omega
              subst e
              exact zcf_10_64
          · rcases Nat.lt_or_ge k 66 with h1 | h0
            · have e : k = 65 := by omega
              subst e
              exact zcf_10_65
            · rcases Nat.lt_or_ge k 67 with h1 | h0
              · have e : k = 66 := by omega
                subst e
                exact zcf_10_66
              · have e : k = 67 := by omega
                subst e
                exact zcf_10_67
        · rcases Nat.lt_or_ge k 70 with h1 | h0
          · rcases Nat.lt_or_ge k 69 with h1 | h0
            · have e : k = 68 := by omega
              subst e
              exact zcf_10_68
            · have e : k = 69 := by omega
              subst e
              exact zcf_10_69
          · rcases Nat.lt_or_ge k 71 with h1 | h0
            · have e : k = 70 := by omega
              subst e
              exact zcf_10_70
            · rcases Nat.lt_or_ge k 72 with h1 | h0
              · have e : k = 71 := by omega
                subst e
                exact zcf_10_71
              · have e : k = 72 := by omega
                subst e
                exact zcf_10_72
set_option maxRecDepth 100000 in
theorem zcf {ci k : Nat} (hc : ci < 11) (hk : k < (zT3 ci).2.2) : zCf ci k := by
  have : ci = 0 ∨ ci = 1 ∨ ci = 2 ∨ ci = 3 ∨ ci = 4 ∨ ci = 5 ∨ ci = 6 ∨ ci = 7 ∨ ci = 8 ∨ ci = 9 ∨ ci = 10 := by omega
  rcases this with rfl | rfl | rfl | rfl | rfl | rfl | rfl | rfl | rfl | rfl | rfl
  · exact zcf_0 hk
  · exact zcf_1 hk
  · exact zcf_2 hk
  · exact zcf_3 hk
  · exact zcf_4 hk
  · exact zcf_5 hk
  · exact zcf_6 hk
  · exact zcf_7 hk
  · exact zcf_8 hk
  · exact zcf_9 hk
  · exact zcf_10 hk
set_option maxRecDepth 100000 in
theorem zcl_at : ∀ ci, ci < 11 → vwCl[ci]? = some (zT3 ci) := by
  intro ci h
  have : ci = 0 ∨ ci = 1 ∨ ci = 2 ∨ ci = 3 ∨ ci = 4 ∨ ci = 5 ∨ ci = 6 ∨ ci = 7 ∨ ci = 8 ∨ ci = 9 ∨ ci = 10 := by omega
  rcases this with rfl | rfl | rfl | rfl | rfl | rfl | rfl | rfl | rfl | rfl | rfl <;> rfl
set_option maxRecDepth 100000 in
theorem zN_chk : zKL.all (fun e => decide (50 ≤ e.1) || (decide (e.1 < 11) && decide (e.2 = (zT3 e.1).2.2))) = true := by decide +kernel
set_option maxRecDepth 100000 in
theorem znm : ∀ ci, ci < 11 → ∀ a, a < (zT3 ci).2.2 → ∀ b, b < (zT3 ci).2.2 → a ≠ b → ((zT3 ci).2.1 a).2.1 ≠ ((zT3 ci).2.1 b).2.1 := by
  intro ci h
  have : ci = 0 ∨ ci = 1 ∨ ci = 2 ∨ ci = 3 ∨ ci = 4 ∨ ci = 5 ∨ ci = 6 ∨ ci = 7 ∨ ci = 8 ∨ ci = 9 ∨ ci = 10 := by omega
  rcases this with rfl | rfl | rfl | rfl | rfl | rfl | rfl | rfl | rfl | rfl | rfl
  · exact nmX0
  · exact nmX1
  · exact nmX2
  · exact nmX3
  · exact nmX4
  · exact nmX5
  · exact nmX6
  · exact nmX7
  · exact nmX8
  · exact nmX9
  · exact nmX10
set_option maxRecDepth 100000 in
theorem zin {ci : Nat} (hc : ci < 11) : ∀ w ∈ u_ws (zT3 ci).1 (zT3 ci).2.1 (zT3 ci).2.2, w ∈ lw_tbl := by
  intro w hw
  unfold u_ws at hw
  obtain ⟨k, hk, e⟩ := List.mem_map.mp hw
  rw [← e]
  exact (zcf hc (List.mem_range.mp hk)).1
theorem zK_cases (r : Int) : zK r = (99, 0) ∨ zK r ∈ zKL := by
  unfold zK
  rw [List.getD_eq_getElem?_getD]
  cases h : zKL[r.toNat]? with
  | none => exact Or.inl rfl
  | some v => exact Or.inr (List.mem_of_getElem? h)
theorem zKN {r : Int} {ci : Nat} (h : (zK r).1 = ci) (h50 : ci < 50) : ci < 11 ∧ (zK r).2 = (zT3 ci).2.2 := by
  rcases zK_cases r with e | e
  · rw [e] at h
    exact absurd h50 (by rw [← h]; decide)
  · have h1 := List.all_eq_true.mp zN_chk _ e
    simp only [Bool.or_eq_true, Bool.and_eq_true, decide_eq_true_eq] at h1
    rcases h1 with h1 | h1
    · omega
    · rw [← h]
      exact h1
