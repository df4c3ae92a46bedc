/-! what holds at the law's entry, in the words of the abstract machine -/
def vW : List Cond := zNg ++ (zStrO.map (fun q => Cond.stringRef q.1 q.2.1 q.2.2) ++ [.fieldLinkNest "RainWheel$Road" 9 "RainWheel" "MOST_OF_KIND" "[I" "RainWheel", .arrayOver (.array .int), .arrayOver (.object "RainWheel$Plan"), .arrayClass .int, .arrayClass .byte, .arrayClass .boolean, .arrayClass .long,
  .laysStatic "RainWheel" "MOST_OF_KIND" "[I", .laysStatic Bundle.tN "UNASSIGNED_STACK" Bundle.steD, .laysStatic Bundle.tN "SUPPRESSED_SENTINEL" Bundle.listD, .laysStatic "java/lang/String" "COMPACT_STRINGS" "Z", .laysStatic sP "SIOOBE_FORMATTER" sFm,
  .initialized "RainWheel", .initialized Bundle.tN, .initialized "java/lang/String", .initialized sP])
set_option maxRecDepth 100000 in
theorem vW_t : ∀ w ∈ vW, w ∈ lw_tbl := by decide +kernel
theorem vIns : ∀ ci, ci < 11 → Cond.instantiable (zT3 ci).1 (zT3 ci).2.2 ∈ lw_tbl := by decide +kernel
def vFl : List Cond := flatC (Jvm.Cond.and given_1 narrow_1)
def vMk : Term := .static "RainWheel" "MOST_OF_KIND" "[I"
def vNa : List Cond := [.isRef (.static Bundle.tN "UNASSIGNED_STACK" Bundle.steD), .isRef (.static Bundle.tN "SUPPRESSED_SENTINEL" Bundle.listD), .eq (.static "java/lang/String" "COMPACT_STRINGS" "Z") (.int 1), .isRef (.static sP "SIOOBE_FORMATTER" sFm), .arrayOf vMk .int, .eq (.length vMk) (.int (Int32.ofNat 12))] ++ (zNcL.map (fun q => Cond.not (.castable q.1 q.2)) ++ (List.range 12).map (fun k => Cond.eq (.elem vMk (.int (Int32.ofNat k))) (.int (Int32.ofInt (zMK.getD k 0)))))
set_option maxRecDepth 100000 in
theorem vNa_t : ∀ w ∈ vNa, w ∈ vFl := by decide +kernel
def sTm (j : Nat) : Term := .string (zStrO.getD j ("", 0, "")).1 (zStrO.getD j ("", 0, "")).2.1
def sVl (j : Nat) : Term := .field (sTm j) "java/lang/String" "value" "[B"
def sAt (j : Nat) : List Cond := Cond.exactly (sTm j) "java/lang/String" :: Cond.eq (.field (sTm j) "java/lang/String" "coder" "B") (.int 0) :: Cond.arrayOf (sVl j) .byte :: Cond.eq (.length (sVl j)) (.int (Int32.ofNat (zStr.getD j []).length)) :: (List.range (zStr.getD j []).length).map (fun k => Cond.eq (.elem (sVl j) (.int (Int32.ofNat k))) (.int (Int32.ofInt ((zStr.getD j []).getD k 0))))
def sPos : List Nat := [65, 98, 108, 116, 125, 133, 141, 150, 158, 165, 174, 183, 192, 200, 209, 217, 228, 237, 247, 256, 266, 273, 301, 332, 343, 352, 362, 370, 380, 390, 400, 409, 418, 428, 438, 447, 457, 466, 478, 488, 499, 510]
set_option maxRecDepth 100000 in
theorem sAt_0 : ∀ j ∈ List.range' 0 7, sAt j = (vFl.drop (sPos.getD j 0)).take ((zStr.getD j []).length + 4) := by decide +kernel
set_option maxRecDepth 100000 in
theorem sAt_7 : ∀ j ∈ List.range' 7 7, sAt j = (vFl.drop (sPos.getD j 0)).take ((zStr.getD j []).length + 4) := by decide +kernel
set_option maxRecDepth 100000 in
theorem sAt_14 : ∀ j ∈ List.range' 14 7, sAt j = (vFl.drop (sPos.getD j 0)).take ((zStr.getD j []).length + 4) := by decide +kernel
set_option maxRecDepth 100000 in
theorem sAt_21 : ∀ j ∈ List.range' 21 7, sAt j = (vFl.drop (sPos.getD j 0)).take ((zStr.getD j []).length + 4) := by decide +kernel
set_option maxRecDepth 100000 in
theorem sAt_28 : ∀ j ∈ List.range' 28 7, sAt j = (vFl.drop (sPos.getD j 0)).take ((zStr.getD j []).length + 4) := by decide +kernel
set_option maxRecDepth 100000 in
theorem sAt_35 : ∀ j ∈ List.range' 35 7, sAt j = (vFl.drop (sPos.getD j 0)).take ((zStr.getD j []).length + 4) := by decide +kernel
theorem sAt_eq {j : Nat} (h : j < 42) : sAt j = (vFl.drop (sPos.getD j 0)).take ((zStr.getD j []).length + 4) := by
  rcases Nat.lt_or_ge j 7 with q | q
  · exact sAt_0 j (List.mem_range'_1.mpr ⟨by omega, by omega⟩)
  rcases Nat.lt_or_ge j 14 with q | q
  · exact sAt_7 j (List.mem_range'_1.mpr ⟨by omega, by omega⟩)
  rcases Nat.lt_or_ge j 21 with q | q
  · exact sAt_14 j (List.mem_range'_1.mpr ⟨by omega, by omega⟩)
  rcases Nat.lt_or_ge j 28 with q | q
  · exact sAt_21 j (List.mem_range'_1.mpr ⟨by omega, by omega⟩)
  rcases Nat.lt_or_ge j 35 with q | q
  · exact sAt_28 j (List.mem_range'_1.mpr ⟨by omega, by omega⟩)
  rcases Nat.lt_or_ge j 42 with q | q
  · exact sAt_35 j (List.mem_range'_1.mpr ⟨by omega, by omega⟩)
  omega
theorem sAt_in {j : Nat} (h : j < 42) : ∀ w ∈ sAt j, w ∈ vFl := fun w hw => by
  rw [sAt_eq h] at hw
  exact List.mem_of_mem_drop (List.mem_of_mem_take hw)
theorem sRef_in {j : Nat} (h : j < 42) : Cond.stringRef (zStrO.getD j ("", 0, "")).1 (zStrO.getD j ("", 0, "")).2.1 (zStrO.getD j ("", 0, "")).2.2 ∈ lw_tbl := by
  refine vW_t _ (List.mem_append_right _ (List.mem_append_left _ (List.mem_map.mpr ⟨zStrO.getD j ("", 0, ""), ?_, rfl⟩)))
  have hl : zStrO.length = 42 := by decide +kernel
  rw [List.getD_eq_getElem?_getD, List.getElem?_eq_getElem (by omega)]
  exact List.getElem_mem _
theorem vOne {args : Array Value} {s : State} {A : Nat → Prop} {j : Nat} (hj : j < 42) (hs : ∀ w ∈ vFl, w.before args s = true) (hA : ∀ a : Nat, a < s.heap.size → ¬ A a) :
    ∃ q : Nat × Nat, (sTm j).eval args s none [] s = some (.ref q.1) ∧ va_O "java/lang/String" q.1 A s s.heap ∧ va_OF "java/lang/String" "coder" "B" (.int 0) q.1 A s s.heap ∧ va_OF "java/lang/String" "value" "[B" (.ref q.2) q.1 A s s.heap ∧ va_T .byte q.2 (zStr.getD j []).length (fun k => .int (Int32.ofInt ((zStr.getD j []).getD k 0))) A s s.heap := by
  have hx := fun w hw => hs w (sAt_in hj w hw)
  have hln : (zStr.getD j []).length < 2 ^ 31 := by
    have := zStr_ln (j := j) (by rw [zStr_len]; exact hj)
    omega
  obtain ⟨a, c, cA, kA, q1, q2, q3, q4, q5, q6, -⟩ := Cond.exactly_spec (args := args) (first := s) (o := none) (s := s) (idx := []) (t := sTm j) (cls := "java/lang/String") (hx _ List.mem_cons_self)
  have hco := hx _ (List.mem_cons_of_mem _ List.mem_cons_self)
  have har := hx _ (List.mem_cons_of_mem _ (List.mem_cons_of_mem _ List.mem_cons_self))
  have hle := hx _ (List.mem_cons_of_mem _ (List.mem_cons_of_mem _ (List.mem_cons_of_mem _ List.mem_cons_self)))
  obtain ⟨t, ht, hT⟩ := va_Tof (f := fun k => .int (Int32.ofInt ((zStr.getD j []).getD k 0))) (A := A) hln har (va_eqt hle) (fun k hk => va_eqt (hx _ (List.mem_cons_of_mem _ (List.mem_cons_of_mem _ (List.mem_cons_of_mem _ (List.mem_cons_of_mem _ (List.mem_map.mpr ⟨k, List.mem_range.mpr hk, rfl⟩))))))) hA
  exact ⟨(a, t), q1, ⟨cA, q3, q5, by rw [q6]; exact q2, hA a (Array.getElem?_eq_some_iff.mp q3).1⟩, vk_OFof q1 (va_eqt hco) hA, vk_OFof q1 ht hA, hT⟩
def vG (L : Nat) (xs : Nat → Int32) : Int → Int := fun j => if j = -1 then (L : Int) else (xs j.toNat).toInt
theorem vG_n {L : Nat} {xs : Nat → Int32} {j : Nat} : vG L xs (j : Int) = (xs j).toInt := by
  unfold vG
  rw [if_neg (by omega)]
  rfl
theorem v_Kn {s : State} {b L : Nat} {xs : Nat → Int32} {args : Array Value} (hL : L ≤ 3584) (hts : ∀ w ∈ lw_tbl, w.before args s = true) (hs : ∀ w ∈ vFl, w.before args s = true) (hX : va_X b L xs s s.heap) (hbl : b < s.heap.size) :
    ∃ ρ : Nat → Nat, ρ 0 = b ∧ zKn ρ (fun q => s.heap.size ≤ q) (vG L xs) s := by
  have hA : ∀ a : Nat, a < s.heap.size → ¬ (fun q : Nat => s.heap.size ≤ q) a := fun a h => Nat.not_le.mpr h
  have hv : ∀ w ∈ vW, w.before args s = true := fun w hw => hts w (vW_t w hw)
  have hn : ∀ w ∈ vNa, w.before args s = true := fun w hw => hs w (vNa_t w hw)
  have hv2 : ∀ w ∈ vW, w ∉ zNg → w.before args s = true := fun w hw _ => hv w hw
  have h0 : ∀ j : Nat, ∃ q : Nat × Nat, j < 42 → ((sTm j).eval args s none [] s = some (.ref q.1) ∧ va_O "java/lang/String" q.1 (fun q => s.heap.size ≤ q) s s.heap ∧ va_OF "java/lang/String" "coder" "B" (.int 0) q.1 (fun q => s.heap.size ≤ q) s s.heap ∧ va_OF "java/lang/String" "value" "[B" (.ref q.2) q.1 (fun q => s.heap.size ≤ q) s s.heap ∧ va_T .byte q.2 (zStr.getD j []).length (fun k => .int (Int32.ofInt ((zStr.getD j []).getD k 0))) (fun q => s.heap.size ≤ q) s s.heap) := by
    intro j
    by_cases hj : j < 42
    · obtain ⟨q, hq⟩ := vOne (args := args) hj hs hA
      exact ⟨q, fun _ => hq⟩
    · exact ⟨(0, 0), fun h => absurd h hj⟩
  obtain ⟨ad, had⟩ := Classical.axiomOfChoice h0
  obtain ⟨mk, hmk, hmT⟩ := va_Tof (N := 12) (f := fun k => .int (Int32.ofInt (zMK.getD k 0))) (A := fun q => s.heap.size ≤ q) (by decide) (hn (.arrayOf vMk .int) (by simp [vNa])) (va_eqt (hn (.eq (.length vMk) (.int (Int32.ofNat 12))) (by simp [vNa]))) (fun k hk => va_eqt (hn _ (List.mem_append_right _ (List.mem_append_right _ (List.mem_map.mpr ⟨k, List.mem_range.mpr hk, rfl⟩))))) hA
  have tl : ∀ w ∈ ([.fieldLinkNest "RainWheel$Road" 9 "RainWheel" "MOST_OF_KIND" "[I" "RainWheel", .arrayOver (.array .int), .arrayOver (.object "RainWheel$Plan"), .arrayClass .int, .arrayClass .byte, .arrayClass .boolean, .arrayClass .long,
  .laysStatic "RainWheel" "MOST_OF_KIND" "[I", .laysStatic Bundle.tN "UNASSIGNED_STACK" Bundle.steD, .laysStatic Bundle.tN "SUPPRESSED_SENTINEL" Bundle.listD, .laysStatic "java/lang/String" "COMPACT_STRINGS" "Z", .laysStatic sP "SIOOBE_FORMATTER" sFm,
  .initialized "RainWheel", .initialized Bundle.tN, .initialized "java/lang/String", .initialized sP] : List Cond), w.before args s = true := fun w hw => hv w (List.mem_append_right _ (List.mem_append_right _ hw))
  have r0 : ∀ j, j < 42 → (fun n => if n = 0 then b else if n = 1 then mk else if n < 200 then (ad (n - 100)).1 else (ad (n - 200)).2 : Nat → Nat) (100 + j) = (ad j).1 := by
    intro j hj
    dsimp only
    rw [if_neg (by omega), if_neg (by omega), if_pos (by omega), Nat.add_sub_cancel_left]
  have r1 : ∀ j, j < 42 → (fun n => if n = 0 then b else if n = 1 then mk else if n < 200 then (ad (n - 100)).1 else (ad (n - 200)).2 : Nat → Nat) (200 + j) = (ad j).2 := by
    intro j hj
    dsimp only
    rw [if_neg (by omega), if_neg (by omega), if_neg (by omega), Nat.add_sub_cancel_left]
  refine ⟨fun n => if n = 0 then b else if n = 1 then mk else if n < 200 then (ad (n - 100)).1 else (ad (n - 200)).2, rfl, ⟨⟨L, hL, rfl, ?_, ?_⟩, ?_, ?_⟩, ⟨?_, ?_, ?_, ?_, ?_, ?_⟩, ?_, ?_, ?_, ⟨?_, ?_⟩, ?_⟩
  · obtain ⟨scr, x1, x2, x3, x4, x5⟩ := hX
    refine ⟨scr, x1, x2, x3, by omega, by rw [x4], fun j hj => ?_, hA b hbl⟩
    rw [x5 j hj]
    show some (Value.int (xs j)) = some (Value.int (Int32.ofInt (vG L xs (j : Int))))
    rw [vG_n, Int32.ofInt_toInt]
  · intro j hj
    rw [vG_n]
    have h1 := Int32.le_toInt (xs j)
    have h2 := Int32.toInt_lt (xs j)
    unfold zr32
    omega
  · exact va_Zof (tl (.laysStatic "RainWheel" "MOST_OF_KIND" "[I") (by simp)) (tl (.initialized "RainWheel") (by simp)) hmk hA
  · exact hmT
  · intro e he
    exact va_Nw.of rfl (hts _ (zMsN_in he).1)
  · exact va_Nw.of rfl (tl (.fieldLinkNest "RainWheel$Road" 9 "RainWheel" "MOST_OF_KIND" "[I" "RainWheel") (by simp))
  · exact va_AOA.of (tl (.arrayOver (.array .int)) (by simp))
  · exact va_AO.of (tl (.arrayOver (.object "RainWheel$Plan")) (by simp))
  · intro w hw
    exact va_Nw.of rfl (hv _ (List.mem_append_left _ (List.mem_append_left _ (List.mem_map.mpr ⟨w, hw, rfl⟩))))
  · intro x hx
    exact va_Nw.of rfl (hv _ (List.mem_append_left _ (List.mem_append_right _ (List.mem_map.mpr ⟨x, hx, rfl⟩))))
  · intro j hj
    obtain ⟨c1, c2, c3, c4, c5⟩ := had j hj
    unfold zKc1
    rw [r0 j hj, r1 j hj]
    exact ⟨vk_R.of (hts _ (sRef_in hj)) c1, c2, c3, c4, c5⟩
  · exact vx_Zqof (tl (.laysStatic Bundle.tN "UNASSIGNED_STACK" Bundle.steD) (by simp)) (tl (.initialized Bundle.tN) (by simp)) (hn (.isRef (.static Bundle.tN "UNASSIGNED_STACK" Bundle.steD)) (by simp [vNa])) hA
  · exact vx_Zqof (tl (.laysStatic Bundle.tN "SUPPRESSED_SENTINEL" Bundle.listD) (by simp)) (tl (.initialized Bundle.tN) (by simp)) (hn (.isRef (.static Bundle.tN "SUPPRESSED_SENTINEL" Bundle.listD)) (by simp [vNa])) hA
  · exact va_Zof (tl (.laysStatic "java/lang/String" "COMPACT_STRINGS" "Z") (by simp)) (tl (.initialized "java/lang/String") (by simp)) (va_eqt (hn (.eq (.static "java/lang/String" "COMPACT_STRINGS" "Z") (.int 1)) (by simp [vNa]))) hA
  · exact va_Zqof (tl (.laysStatic sP "SIOOBE_FORMATTER" sFm) (by simp)) (tl (.initialized sP) (by simp)) (hn (.isRef (.static sP "SIOOBE_FORMATTER" sFm)) (by simp [vNa])) hA
  · intro w hw
    exact va_Nc.of (hn _ (List.mem_append_right _ (List.mem_append_left _ (List.mem_map.mpr ⟨w, hw, rfl⟩))))
theorem v_arr {s : State} {args : Array Value} {ty : FieldType} (hty : ∀ C, ty ≠ .object C) (h : (Cond.arrayClass ty).before args s = true) : ∃ cA : ClassId, ArrOfT s cA ty ∧ va_RA s cA ty := by
  obtain ⟨c, k, comp, h1, h2, h3⟩ := Cond.arrayClass_spec (args := args) (first := s) (o := none) (s := s) (idx := []) h
  refine ⟨c, fun n z => ⟨fun k h => (by cases h), k, h2, comp, h3⟩, ?_⟩
  cases ty with
  | object C => exact absurd rfl (hty C)
  | _ => exact h1
theorem v_arrO {s : State} {args : Array Value} {C : String} (h : (Cond.arrayOver (.object C)).before args s = true) : ∃ cA : ClassId, ArrOfT s cA (.object C) ∧ va_RA s cA (.object C) := by
  obtain ⟨comp, c, k, h1, -, h2, h3, h4⟩ := Cond.arrayOver_spec (args := args) (first := s) (o := none) (s := s) (idx := []) h
  exact ⟨c, fun n z => ⟨fun k h => (by cases h), k, h2, comp, h3⟩, k, comp, h2, h3, h1, h4⟩
theorem v_arrA {s : State} {args : Array Value} {t : FieldType} (h : (Cond.arrayOver (.array t)).before args s = true) : ∃ cA : ClassId, ArrOfT s cA (.array t) ∧ va_RA s cA (.array t) := by
  have h : (Cond.arrayOver (.array t)).holds args s none s [] = true := h
  simp only [Cond.holds, Cond.value, beq_iff_eq] at h
  cases hc : s.vm.findClass (FieldType.array t).toString with
  | none => simp [hc] at h
  | some comp =>
    simp only [hc, Option.bind_some, Option.bind_eq_some_iff, Option.map_eq_some_iff] at h
    obtain ⟨c, hi, k, hk, hb⟩ := h
    obtain ⟨hlt, hp, -⟩ := Array.findIdx?_eq_some_iff_getElem.mp hi
    have hkk : s.vm.classes[c] = k := (Array.getElem?_eq_some_iff.mp hk).2
    rw [hkk] at hp
    cases hkind : k.kind with
    | array component ty =>
      rw [hkind] at hb hp
      simp at hb hp
      exact ⟨c, fun n z => ⟨fun k h => (by cases h), k, hk, comp, by rw [hkind, hp, hb.1]⟩, hb.2⟩
    | _ => rw [hkind] at hb; simp at hb
theorem v_K {s : State} {args : Array Value} (hts : ∀ w ∈ lw_tbl, w.before args s = true) : ∃ (D : va_G) (κ : Nat → ClassId), va_K D vwCl (zTys κ) s := by
  have hv : ∀ w ∈ vW, w.before args s = true := fun w hw => hts w (vW_t w hw)
  have h0 : ∀ ci : Nat, ∃ x : ClassId × (Nat → Nat), ci < 11 → u_Kn s (zT3 ci).1 (zT3 ci).2.1 (zT3 ci).2.2 x.1 x.2 := by
    intro ci
    by_cases hc : ci < 11
    · obtain ⟨cC, iS, hK⟩ := u_known hts (zin hc) (hts _ (vIns ci hc))
      exact ⟨(cC, iS), fun _ => hK⟩
    · exact ⟨(0, fun _ => 0), fun h => absurd h hc⟩
  obtain ⟨f, hf⟩ := Classical.axiomOfChoice h0
  obtain ⟨k0, a0⟩ := v_arr (ty := .int) (by intro C h; cases h) (hv (.arrayClass .int) (List.mem_append_right _ (List.mem_append_right _ (by simp))))
  obtain ⟨k1, a1⟩ := v_arr (ty := .byte) (by intro C h; cases h) (hv (.arrayClass .byte) (List.mem_append_right _ (List.mem_append_right _ (by simp))))
  obtain ⟨k2, a2⟩ := v_arr (ty := .boolean) (by intro C h; cases h) (hv (.arrayClass .boolean) (List.mem_append_right _ (List.mem_append_right _ (by simp))))
  obtain ⟨k3, a3⟩ := v_arr (ty := .long) (by intro C h; cases h) (hv (.arrayClass .long) (List.mem_append_right _ (List.mem_append_right _ (by simp))))
  obtain ⟨k4, a4⟩ := v_arrA (t := .int) (hv (.arrayOver (.array .int)) (List.mem_append_right _ (List.mem_append_right _ (by simp))))
  obtain ⟨k5, a5⟩ := v_arrO (C := "RainWheel$Plan") (hv (.arrayOver (.object "RainWheel$Plan")) (List.mem_append_right _ (List.mem_append_right _ (by simp))))
  refine ⟨(fun ci => (f ci).1, fun ci => (f ci).2), fun n => if n = 50 then k0 else if n = 51 then k1 else if n = 52 then k2 else if n = 53 then k3 else if n = 54 then k4 else k5, fun ci q hq => ?_, fun k q hq => ?_⟩
  · have hc : ci < 11 := (List.getElem?_eq_some_iff.mp hq).1
    rw [zcl_at ci hc] at hq
    cases hq
    exact hf ci hc
  · match k, hq with
    | 0, hq => cases hq; exact a0
    | 1, hq => cases hq; exact a1
    | 2, hq => cases hq; exact a2
    | 3, hq => cases hq; exact a3
    | 4, hq => cases hq; exact a4
    | 5, hq => cases hq; exact a5
    | k + 6, hq => cases hq
