/-! the two questions to a String constant: the JDK's own methods, by contract -/
def yLen : MethodName := ⟨"java/lang/String", "length", "()I"⟩
def yCod : MethodName := ⟨"java/lang/String", "coder", "()B"⟩
def yChA : MethodName := ⟨"java/lang/String", "charAt", "(I)C"⟩
def yIsL : MethodName := ⟨"java/lang/String", "isLatin1", "()Z"⟩
def yLat : MethodName := ⟨"java/lang/StringLatin1", "charAt", "([BI)C"⟩
def yChk : MethodName := ⟨"java/lang/String", "checkIndex", "(II)V"⟩
def yPre : MethodName := ⟨"jdk/internal/util/Preconditions", "checkIndex", "(IILjava/util/function/BiFunction;)I"⟩
def kLen : Cond := .code yLen prog_22_method_54_code 1 (some .int)
def kCod : Cond := .code yCod prog_22_method_152_code 1 (some .byte)
def kChA : Cond := .code yChA prog_22_method_56_code 2 (some .char)
def kIsL : Cond := .code yIsL prog_22_method_154_code 1 (some .boolean)
def kLat : Cond := .code yLat prog_23_method_2_code 2 (some .char)
def kChk : Cond := .code yChk prog_22_method_155_code 2 none
def kPre : Cond := .code yPre prog_31_method_11_code 3 (some .int)
def sFm : String := "Ljava/util/function/BiFunction;"
def sP : String := "jdk/internal/util/Preconditions"
def wS : List Cond := [kLen, kCod, kChA, kIsL, kLat, kChk, kPre,
  .fieldLink "java/lang/String" 9 "java/lang/String" "value" "[B", .fieldLink "java/lang/String" 15 "java/lang/String" "coder" "B", .fieldLink "java/lang/String" 38 "java/lang/String" "COMPACT_STRINGS" "Z", .fieldLink "java/lang/String" 1053 sP "SIOOBE_FORMATTER" sFm,
  .methodLink "java/lang/String" 335 yCod, .instanceMethod yCod, .selects "java/lang/String" yCod yCod, .initialized "java/lang/String",
  .methodLink "java/lang/String" 492 yIsL, .instanceMethod yIsL, .selects "java/lang/String" yIsL yIsL,
  .methodLink "java/lang/String" 495 yLat, .static yLat, .initialized "java/lang/StringLatin1",
  .methodLink "java/lang/StringLatin1" 9 yChk, .static yChk, .methodLink "java/lang/String" 1059 yPre, .static yPre, .initialized sP,
  .instanceMethod yLen, .selects "java/lang/String" yLen yLen, .instanceMethod yChA, .selects "java/lang/String" yChA yChA]
set_option maxRecDepth 100000 in
theorem wS_t : ∀ w ∈ wS, w ∈ lw_tbl := by decide +kernel
set_option maxRecDepth 100000 in
theorem wS_g : ∀ w ∈ wS, goodWord w = true := by decide +kernel
theorem wS_z {w : Cond} (h : w ∈ wS) : w ∈ zGd := zGd_in (wS_t w h) (wS_g w h)
theorem dPre_0 : decode prog_31_method_11_code 0 = .ok (.iload_n 0, 1) := by decide +kernel
theorem dPre_1 : decode prog_31_method_11_code 1 = .ok (.ifCond .lt 8, 3) := by decide +kernel
theorem dPre_4 : decode prog_31_method_11_code 4 = .ok (.iload_n 0, 1) := by decide +kernel
theorem dPre_5 : decode prog_31_method_11_code 5 = .ok (.iload_n 1, 1) := by decide +kernel
theorem dPre_6 : decode prog_31_method_11_code 6 = .ok (.if_icmp .lt 10, 3) := by decide +kernel
theorem dPre_16 : decode prog_31_method_11_code 16 = .ok (.iload_n 0, 1) := by decide +kernel
theorem dPre_17 : decode prog_31_method_11_code 17 = .ok (.ireturn, 1) := by decide +kernel
theorem dChk_0 : decode prog_22_method_155_code 0 = .ok (.iload_n 0, 1) := by decide +kernel
theorem dChk_1 : decode prog_22_method_155_code 1 = .ok (.iload_n 1, 1) := by decide +kernel
theorem dChk_2 : decode prog_22_method_155_code 2 = .ok (.getstatic 1053, 3) := by decide +kernel
theorem dChk_5 : decode prog_22_method_155_code 5 = .ok (.invokestatic 1059, 3) := by decide +kernel
theorem dChk_8 : decode prog_22_method_155_code 8 = .ok (.pop, 1) := by decide +kernel
theorem dChk_9 : decode prog_22_method_155_code 9 = .ok (.return_, 1) := by decide +kernel
theorem dLat_0 : decode prog_23_method_2_code 0 = .ok (.iload_n 1, 1) := by decide +kernel
theorem dLat_1 : decode prog_23_method_2_code 1 = .ok (.aload_n 0, 1) := by decide +kernel
theorem dLat_2 : decode prog_23_method_2_code 2 = .ok (.arraylength, 1) := by decide +kernel
theorem dLat_3 : decode prog_23_method_2_code 3 = .ok (.invokestatic 9, 3) := by decide +kernel
theorem dLat_6 : decode prog_23_method_2_code 6 = .ok (.aload_n 0, 1) := by decide +kernel
theorem dLat_7 : decode prog_23_method_2_code 7 = .ok (.iload_n 1, 1) := by decide +kernel
theorem dLat_8 : decode prog_23_method_2_code 8 = .ok (.baload, 1) := by decide +kernel
theorem dLat_9 : decode prog_23_method_2_code 9 = .ok (.sipush 255, 3) := by decide +kernel
theorem dLat_12 : decode prog_23_method_2_code 12 = .ok (.iand, 1) := by decide +kernel
theorem dLat_13 : decode prog_23_method_2_code 13 = .ok (.i2c, 1) := by decide +kernel
theorem dLat_14 : decode prog_23_method_2_code 14 = .ok (.ireturn, 1) := by decide +kernel
theorem dIsL_0 : decode prog_22_method_154_code 0 = .ok (.getstatic 38, 3) := by decide +kernel
theorem dIsL_3 : decode prog_22_method_154_code 3 = .ok (.ifCond .eq 14, 3) := by decide +kernel
theorem dIsL_6 : decode prog_22_method_154_code 6 = .ok (.aload_n 0, 1) := by decide +kernel
theorem dIsL_7 : decode prog_22_method_154_code 7 = .ok (.getfield 15, 3) := by decide +kernel
theorem dIsL_10 : decode prog_22_method_154_code 10 = .ok (.ifCond .ne 7, 3) := by decide +kernel
theorem dIsL_13 : decode prog_22_method_154_code 13 = .ok (.iconst 1, 1) := by decide +kernel
theorem dIsL_14 : decode prog_22_method_154_code 14 = .ok (.goto 4, 3) := by decide +kernel
theorem dIsL_18 : decode prog_22_method_154_code 18 = .ok (.ireturn, 1) := by decide +kernel
theorem dCod_0 : decode prog_22_method_152_code 0 = .ok (.getstatic 38, 3) := by decide +kernel
theorem dCod_3 : decode prog_22_method_152_code 3 = .ok (.ifCond .eq 10, 3) := by decide +kernel
theorem dCod_6 : decode prog_22_method_152_code 6 = .ok (.aload_n 0, 1) := by decide +kernel
theorem dCod_7 : decode prog_22_method_152_code 7 = .ok (.getfield 15, 3) := by decide +kernel
theorem dCod_10 : decode prog_22_method_152_code 10 = .ok (.goto 4, 3) := by decide +kernel
theorem dCod_14 : decode prog_22_method_152_code 14 = .ok (.ireturn, 1) := by decide +kernel
theorem dLen_0 : decode prog_22_method_54_code 0 = .ok (.aload_n 0, 1) := by decide +kernel
theorem dLen_1 : decode prog_22_method_54_code 1 = .ok (.getfield 9, 3) := by decide +kernel
theorem dLen_4 : decode prog_22_method_54_code 4 = .ok (.arraylength, 1) := by decide +kernel
theorem dLen_5 : decode prog_22_method_54_code 5 = .ok (.aload_n 0, 1) := by decide +kernel
theorem dLen_6 : decode prog_22_method_54_code 6 = .ok (.invokevirtual 335, 3) := by decide +kernel
theorem dLen_9 : decode prog_22_method_54_code 9 = .ok (.ishr, 1) := by decide +kernel
theorem dLen_10 : decode prog_22_method_54_code 10 = .ok (.ireturn, 1) := by decide +kernel
theorem dChA_0 : decode prog_22_method_56_code 0 = .ok (.aload_n 0, 1) := by decide +kernel
theorem dChA_1 : decode prog_22_method_56_code 1 = .ok (.invokevirtual 492, 3) := by decide +kernel
theorem dChA_4 : decode prog_22_method_56_code 4 = .ok (.ifCond .eq 12, 3) := by decide +kernel
theorem dChA_7 : decode prog_22_method_56_code 7 = .ok (.aload_n 0, 1) := by decide +kernel
theorem dChA_8 : decode prog_22_method_56_code 8 = .ok (.getfield 9, 3) := by decide +kernel
theorem dChA_11 : decode prog_22_method_56_code 11 = .ok (.iload_n 1, 1) := by decide +kernel
theorem dChA_12 : decode prog_22_method_56_code 12 = .ok (.invokestatic 495, 3) := by decide +kernel
theorem dChA_15 : decode prog_22_method_56_code 15 = .ok (.ireturn, 1) := by decide +kernel
/-- nothing is written -/
def sE : Nat → Prop := fun _ => False
/-- a String constant at a, its bytes at t; the two statics -/
def sWh (a t N : Nat) (f : Nat → Value) (U : State) (H : Heap) : Prop := (va_Z "java/lang/String" "COMPACT_STRINGS" "Z" (.int 1) sE U H ∧ va_Zq sP "SIOOBE_FORMATTER" sFm sE U H) ∧ va_O "java/lang/String" a sE U H ∧ va_OF "java/lang/String" "coder" "B" (.int 0) a sE U H ∧ va_OF "java/lang/String" "value" "[B" (.ref t) a sE U H ∧ va_T .byte t N f sE U H
theorem sWh.moved {a t N : Nat} {f : Nat → Value} {u U : State} {H : Heap} (hv : u.vm.Alike U.vm) (h : sWh a t N f u H) : sWh a t N f U H := ⟨⟨va_Z.moved hv h.1.1, va_Zq.moved hv h.1.2⟩, va_O.moved hv h.2.1, va_OF.moved hv h.2.2.1, va_OF.moved hv h.2.2.2.1, va_T.moved hv h.2.2.2.2⟩
theorem sWh.kept {a t N : Nat} {f : Nat → Value} {U : State} {H H1 : Heap} (h : sWh a t N f U H) (hq : ∀ q : Nat, q < H.size → ¬ sE q → H1[q]? = H[q]?) : sWh a t N f U H1 := ⟨⟨va_Z.kept h.1.1 hq, va_Zq.kept h.1.2 hq⟩, va_O.kept h.2.1 hq, va_OF.kept h.2.2.1 hq, va_OF.kept h.2.2.2.1 hq, va_T.kept h.2.2.2.2 hq⟩
abbrev sPc (vs : List Value) (a t N : Nat) (f : Nat → Value) : Array Value → State → Prop := va_Pc vs (fun U => sWh a t N f U U.heap)
abbrev sQi (v : Int32) : Array Value → State → Outcome → State → Prop := va_Qi (fun (r : Int32) (_ : Unit) => r = v) (fun _ _ => True) sE
theorem sPc_b {vs : List Value} {a t N : Nat} {f : Nat → Value} : FrameBlind (sPc vs a t N f) := fun a' U g mk q => ⟨q.1, sWh.moved (u := U) (U := U.calling g mk a') (Vm.Alike.refl U.vm) q.2⟩
theorem sRecv {a t N : Nat} {f : Nat → Value} {U : State} {H : Heap} (h : sWh a t N f U H) : ∃ cell : Cell, H[a]? = some cell ∧ cell.vm.isStatics = false ∧ U.vm.findClass "java/lang/String" = some cell.cls := by
  obtain ⟨cell, h1, h2, h3, -⟩ := h.2.1
  exact ⟨cell, h1, h2, h3⟩
theorem sGood {k : Cond} {ws : List Cond} (hk : k ∈ wS) (h : ∀ w ∈ ws, w ∈ wS) : GoodIn (k :: wS) ws := fun w hw => ⟨List.mem_cons_of_mem _ (h w hw), good_of_word (wS_g w (h w hw))⟩
theorem sIn {k : Cond} (hk : k ∈ wS) : ∀ w ∈ k :: wS, w ∈ wS := fun w hw => by
  rcases List.mem_cons.mp hw with q | q
  · rw [q]; exact hk
  · exact q
theorem kPre_in : kPre ∈ wS := by simp [wS]
theorem kChk_in : kChk ∈ wS := by simp [wS]
theorem kLat_in : kLat ∈ wS := by simp [wS]
theorem kIsL_in : kIsL ∈ wS := by simp [wS]
theorem kCod_in : kCod ∈ wS := by simp [wS]
theorem kLen_in : kLen ∈ wS := by simp [wS]
theorem kChA_in : kChA ∈ wS := by simp [wS]
section STR
variable (l : Launch) (a t N : Nat) (f : Nat → Value)
theorem cPreN {i n : Int32} (h0 : ¬ i < 0) (h1 : i < n) : Met l yPre (kPre :: wS) { frames := 0, cells := 0, slots := 0, locals := 0 } (sPc [.int i, .int n, .null] a t N f) (sQi i) 0 0 sE := by
  refine Met.ofW (cc := prog_31_method_11_code) (maxL := 3) (ret := (some .int)) (by decide +kernel) rfl ?_
  intro p e s m args below meth c s₁ B hml hv
  obtain ⟨rfl, hW⟩ := hv
  have hx := B.exec
  have hb := B.bytes
  have hr := B.returns
  have hts := atoms_spec (ws := kPre :: wS) B.pre
  have hs : ∀ w ∈ wS, w.before _ s = true := fun w hw => hts w (List.mem_cons_of_mem _ hw)
  have hown : s.vm.findClass "jdk/internal/util/Preconditions" = some m.cls := findClass_of_methodNamed B.named
  have hS : va_S sE s.heap s.heap [] := va_S.rf
  have hl := lv_entry ([.int i, .int n, .null]) (n := 3) (Nat.le_of_ble_eq_true rfl)
  rw [lg_entry_eq]
  generalize (lg_sl ([.int i, .int n, .null]) ++ List.replicate (3 - (lg_sl ([.int i, .int n, .null])).length) Slot.unset).toArray = ls at hl ⊢
  have hl : lv_has ls 3 [(0, .int i), (1, .int n), (2, .null)] := hl
  refine lv_iload_n hx hb dPre_0 rfl (lv_at hl 0 rfl) ?_
  refine lv_if_lt (tgt := 9) hx hb dPre_1 (by decide) (fun z => absurd z h0) (fun _ => ?_)
  refine lv_iload_n hx hb dPre_4 rfl (lv_at hl 0 rfl) ?_
  refine lv_iload_n hx hb dPre_5 rfl (lv_at hl 1 rfl) ?_
  refine lv_icmp_lt (tgt := 16) hx hb dPre_6 (by decide) (fun _ => ?_) (fun z => absurd h1 z)
  refine lv_iload_n hx hb dPre_16 rfl (lv_at hl 0 rfl) ?_
  exact W.iret (v := i) hx hb hr (fun t ht hW => ⟨⟨i, (), rfl, rfl, trivial⟩, hS.F ht⟩) hS.2.2 dPre_17 B.notSynchronized
theorem cPreR {i n : Int32} {q : Nat} (h0 : ¬ i < 0) (h1 : i < n) : Met l yPre (kPre :: wS) { frames := 0, cells := 0, slots := 0, locals := 0 } (sPc [.int i, .int n, .ref q] a t N f) (sQi i) 0 0 sE := by
  refine Met.ofW (cc := prog_31_method_11_code) (maxL := 3) (ret := (some .int)) (by decide +kernel) rfl ?_
  intro p e s m args below meth c s₁ B hml hv
  obtain ⟨rfl, hW⟩ := hv
  have hx := B.exec
  have hb := B.bytes
  have hr := B.returns
  have hts := atoms_spec (ws := kPre :: wS) B.pre
  have hs : ∀ w ∈ wS, w.before _ s = true := fun w hw => hts w (List.mem_cons_of_mem _ hw)
  have hown : s.vm.findClass "jdk/internal/util/Preconditions" = some m.cls := findClass_of_methodNamed B.named
  have hS : va_S sE s.heap s.heap [] := va_S.rf
  have hl := lv_entry ([.int i, .int n, .ref q]) (n := 3) (Nat.le_of_ble_eq_true rfl)
  rw [lg_entry_eq]
  generalize (lg_sl ([.int i, .int n, .ref q]) ++ List.replicate (3 - (lg_sl ([.int i, .int n, .ref q])).length) Slot.unset).toArray = ls at hl ⊢
  have hl : lv_has ls 3 [(0, .int i), (1, .int n), (2, .ref q)] := hl
  refine lv_iload_n hx hb dPre_0 rfl (lv_at hl 0 rfl) ?_
  refine lv_if_lt (tgt := 9) hx hb dPre_1 (by decide) (fun z => absurd z h0) (fun _ => ?_)
  refine lv_iload_n hx hb dPre_4 rfl (lv_at hl 0 rfl) ?_
  refine lv_iload_n hx hb dPre_5 rfl (lv_at hl 1 rfl) ?_
  refine lv_icmp_lt (tgt := 16) hx hb dPre_6 (by decide) (fun _ => ?_) (fun z => absurd h1 z)
  refine lv_iload_n hx hb dPre_16 rfl (lv_at hl 0 rfl) ?_
  exact W.iret (v := i) hx hb hr (fun t ht hW => ⟨⟨i, (), rfl, rfl, trivial⟩, hS.F ht⟩) hS.2.2 dPre_17 B.notSynchronized
theorem cChk {i n : Int32} (h0 : ¬ i < 0) (h1 : i < n) : Met l yChk (kChk :: wS) { frames := 1, cells := 0, slots := 0, locals := 22 } (sPc [.int i, .int n] a t N f) (va_Qv (fun (_ : Unit) => True) (fun _ _ => True) sE) 0 0 sE := by
  refine Met.ofW (cc := prog_22_method_155_code) (maxL := 2) (ret := none) (by decide +kernel) rfl ?_
  intro p e s m args below meth c s₁ B hml hv
  obtain ⟨rfl, hW⟩ := hv
  have hx := B.exec
  have hb := B.bytes
  have hr := B.returns
  have hts := atoms_spec (ws := kChk :: wS) B.pre
  have hs : ∀ w ∈ wS, w.before _ s = true := fun w hw => hts w (List.mem_cons_of_mem _ hw)
  have hown : s.vm.findClass "java/lang/String" = some m.cls := findClass_of_methodNamed B.named
  have hS : va_S sE s.heap s.heap [] := va_S.rf
  have hl := lv_entry ([.int i, .int n]) (n := 2) (Nat.le_of_ble_eq_true rfl)
  rw [lg_entry_eq]
  generalize (lg_sl ([.int i, .int n]) ++ List.replicate (2 - (lg_sl ([.int i, .int n])).length) Slot.unset).toArray = ls at hl ⊢
  have hl : lv_has ls 2 [(0, .int i), (1, .int n)] := hl
  refine lv_iload_n hx hb dChk_0 rfl (lv_at hl 0 rfl) ?_
  refine lv_iload_n hx hb dChk_1 rfl (lv_at hl 1 rfl) ?_
  rcases hW.1.2 with hZ | ⟨q, hZ⟩
  · refine va_gets (v := .null) hx hb hZ hS hown (hs (.fieldLink "java/lang/String" 1053 sP "SIOOBE_FORMATTER" sFm) (by simp [wS])) (fun _ h9 => h9) dChk_2 ?_
    refine va_calli (va_runS (As := [.int i, .int n, .null]) (rest := []) ⟨hx, hb, hml, hown, hts⟩ (cPreN l a t N f h0 h1) ⟨callB_of 3 hts (sGood kChk_in (sIn kPre_in)) rfl rfl rfl (hs (.initialized sP) (by simp [wS])) (hs (.methodLink "java/lang/String" 1059 yPre) (by simp [wS])) (by decide +kernel) ⟨Nat.le_of_ble_eq_true rfl, Nat.le_of_ble_eq_true rfl⟩, hs (.static yPre) (by simp [wS])⟩ ⟨sPc_b, fun U hU hV => ⟨rfl, by show sWh _ _ _ _ U U.heap; rw [hU]; exact hW.moved hV.alike⟩⟩ rfl rfl hl.1 rfl (lv_room (Nat.le_of_ble_eq_true rfl)) dChk_5 ⟨Nat.le_refl _, Nat.le_refl _⟩) hS (fun q _ h => h) (fun q h => h) (fun r u t H1 locs1 ht hv hw _ hz hk hS1 => ?_)
    refine lv_pop hx hb dChk_8 rfl ?_
    exact W.vret hx hb hr (fun t ht hW => ⟨⟨(), rfl, trivial, trivial⟩, hS1.F ht⟩) hS1.2.2 dChk_9 B.notSynchronized
  · refine va_gets (v := .ref q) hx hb hZ hS hown (hs (.fieldLink "java/lang/String" 1053 sP "SIOOBE_FORMATTER" sFm) (by simp [wS])) (fun _ h9 => h9) dChk_2 ?_
    refine va_calli (va_runS (As := [.int i, .int n, .ref q]) (rest := []) ⟨hx, hb, hml, hown, hts⟩ (cPreR l a t N f h0 h1) ⟨callB_of 3 hts (sGood kChk_in (sIn kPre_in)) rfl rfl rfl (hs (.initialized sP) (by simp [wS])) (hs (.methodLink "java/lang/String" 1059 yPre) (by simp [wS])) (by decide +kernel) ⟨Nat.le_of_ble_eq_true rfl, Nat.le_of_ble_eq_true rfl⟩, hs (.static yPre) (by simp [wS])⟩ ⟨sPc_b, fun U hU hV => ⟨rfl, by show sWh _ _ _ _ U U.heap; rw [hU]; exact hW.moved hV.alike⟩⟩ rfl rfl hl.1 rfl (lv_room (Nat.le_of_ble_eq_true rfl)) dChk_5 ⟨Nat.le_refl _, Nat.le_refl _⟩) hS (fun q _ h => h) (fun q h => h) (fun r u t H1 locs1 ht hv hw _ hz hk hS1 => ?_)
    refine lv_pop hx hb dChk_8 rfl ?_
    exact W.vret hx hb hr (fun t ht hW => ⟨⟨(), rfl, trivial, trivial⟩, hS1.F ht⟩) hS1.2.2 dChk_9 B.notSynchronized
theorem cLat {i x : Int32} (h0 : ¬ i < 0) (h1 : i < Int32.ofNat N) (h2 : vp_in i N) (h3 : f i.toNatClampNeg = .int x) (h4 : ((x &&& 255).toUInt32 % 65536).toInt32 = x) (h5 : narrow .char (.int x) = .int x) : Met l yLat (kLat :: wS) { frames := 2, cells := 0, slots := 0, locals := 43 } (sPc [.ref t, .int i] a t N f) (sQi x) 0 0 sE := by
  refine Met.ofW (cc := prog_23_method_2_code) (maxL := 2) (ret := (some .char)) (by decide +kernel) rfl ?_
  intro p e s m args below meth c s₁ B hml hv
  obtain ⟨rfl, hW⟩ := hv
  have hx := B.exec
  have hb := B.bytes
  have hr := B.returns
  have hts := atoms_spec (ws := kLat :: wS) B.pre
  have hs : ∀ w ∈ wS, w.before _ s = true := fun w hw => hts w (List.mem_cons_of_mem _ hw)
  have hown : s.vm.findClass "java/lang/StringLatin1" = some m.cls := findClass_of_methodNamed B.named
  have hS : va_S sE s.heap s.heap [] := va_S.rf
  have hl := lv_entry ([.ref t, .int i]) (n := 2) (Nat.le_of_ble_eq_true rfl)
  rw [lg_entry_eq]
  generalize (lg_sl ([.ref t, .int i]) ++ List.replicate (2 - (lg_sl ([.ref t, .int i])).length) Slot.unset).toArray = ls at hl ⊢
  have hl : lv_has ls 2 [(0, .ref t), (1, .int i)] := hl
  refine lv_iload_n hx hb dLat_0 rfl (lv_at hl 1 rfl) ?_
  refine lv_aload_n hx hb dLat_1 rfl (lv_at hl 0 rfl) ?_
  refine va_tlen hx hb hW.2.2.2.2 hS rfl dLat_2 ?_
  refine va_callv (va_runS (As := [.int i, .int (Int32.ofNat N)]) (rest := []) ⟨hx, hb, hml, hown, hts⟩ (cChk l a t N f h0 h1) ⟨callB_of 2 hts (sGood kLat_in (sIn kChk_in)) rfl rfl rfl (hs (.initialized "java/lang/String") (by simp [wS])) (hs (.methodLink "java/lang/StringLatin1" 9 yChk) (by simp [wS])) (by decide +kernel) ⟨Nat.le_of_ble_eq_true rfl, Nat.le_of_ble_eq_true rfl⟩, hs (.static yChk) (by simp [wS])⟩ ⟨sPc_b, fun U hU hV => ⟨rfl, by show sWh _ _ _ _ U U.heap; rw [hU]; exact hW.moved hV.alike⟩⟩ rfl rfl hl.1 rfl (lv_room (Nat.le_of_ble_eq_true rfl)) dLat_3 ⟨Nat.le_refl _, Nat.le_refl _⟩) hS (fun q _ h => h) (fun q h => h) (fun u t1 H1 locs1 ht hv hw _ hz hk hS1 => ?_)
  refine lv_aload_n hx hb dLat_6 rfl (lv_at hl 0 rfl) ?_
  refine lv_iload_n hx hb dLat_7 rfl (lv_at hl 1 rfl) ?_
  refine va_tb hx hb hW.2.2.2.2 hS1 h2 h3 dLat_8 ?_
  refine lv_sipush (v := 255) hx hb dLat_9 (by decide) ?_
  refine lv_iand hx hb dLat_12 ?_
  refine lv_i2c hx hb dLat_13 h4 ?_
  exact W.zret (ty := .char) (v := x) hx hb hr h5 (fun t ht hW => ⟨⟨x, (), rfl, rfl, trivial⟩, hS1.F ht⟩) hS1.2.2 dLat_14 B.notSynchronized
theorem cIsL : Met l yIsL (kIsL :: wS) { frames := 0, cells := 0, slots := 0, locals := 0 } (sPc [.ref a] a t N f) (sQi 1) 0 0 sE := by
  refine Met.ofW (cc := prog_22_method_154_code) (maxL := 1) (ret := (some .boolean)) (by decide +kernel) rfl ?_
  intro p e s m args below meth c s₁ B hml hv
  obtain ⟨rfl, hW⟩ := hv
  have hx := B.exec
  have hb := B.bytes
  have hr := B.returns
  have hts := atoms_spec (ws := kIsL :: wS) B.pre
  have hs : ∀ w ∈ wS, w.before _ s = true := fun w hw => hts w (List.mem_cons_of_mem _ hw)
  have hown : s.vm.findClass "java/lang/String" = some m.cls := findClass_of_methodNamed B.named
  have hS : va_S sE s.heap s.heap [] := va_S.rf
  have hl := lv_entry ([.ref a]) (n := 1) (Nat.le_of_ble_eq_true rfl)
  rw [lg_entry_eq]
  generalize (lg_sl ([.ref a]) ++ List.replicate (1 - (lg_sl ([.ref a])).length) Slot.unset).toArray = ls at hl ⊢
  have hl : lv_has ls 1 [(0, .ref a)] := hl
  refine va_gets (v := .int 1) hx hb hW.1.1 hS hown (hs (.fieldLink "java/lang/String" 38 "java/lang/String" "COMPACT_STRINGS" "Z") (by simp [wS])) (fun _ h9 => h9) dIsL_0 ?_
  refine lv_if_eq (tgt := 17) hx hb dIsL_3 (by decide) (fun z => absurd z (by decide)) (fun _ => ?_)
  refine lv_aload_n hx hb dIsL_6 rfl (lv_at hl 0 rfl) ?_
  refine vk_getf hx hb hW.2.2.1 hS hown (hs (.fieldLink "java/lang/String" 15 "java/lang/String" "coder" "B") (by simp [wS])) (fun _ h9 => h9) dIsL_7 ?_
  refine lv_if_ne (tgt := 17) hx hb dIsL_10 (by decide) (fun z => absurd rfl z) (fun _ => ?_)
  refine lv_iconst (v := 1) hx hb dIsL_13 (by decide) ?_
  refine lv_goto (tgt := 18) hx hb dIsL_14 (by decide) ?_
  exact W.zret (ty := .boolean) (v := 1) hx hb hr (by decide) (fun t ht hW => ⟨⟨1, (), rfl, rfl, trivial⟩, hS.F ht⟩) hS.2.2 dIsL_18 B.notSynchronized
theorem cCod : Met l yCod (kCod :: wS) { frames := 0, cells := 0, slots := 0, locals := 0 } (sPc [.ref a] a t N f) (sQi 0) 0 0 sE := by
  refine Met.ofW (cc := prog_22_method_152_code) (maxL := 1) (ret := (some .byte)) (by decide +kernel) rfl ?_
  intro p e s m args below meth c s₁ B hml hv
  obtain ⟨rfl, hW⟩ := hv
  have hx := B.exec
  have hb := B.bytes
  have hr := B.returns
  have hts := atoms_spec (ws := kCod :: wS) B.pre
  have hs : ∀ w ∈ wS, w.before _ s = true := fun w hw => hts w (List.mem_cons_of_mem _ hw)
  have hown : s.vm.findClass "java/lang/String" = some m.cls := findClass_of_methodNamed B.named
  have hS : va_S sE s.heap s.heap [] := va_S.rf
  have hl := lv_entry ([.ref a]) (n := 1) (Nat.le_of_ble_eq_true rfl)
  rw [lg_entry_eq]
  generalize (lg_sl ([.ref a]) ++ List.replicate (1 - (lg_sl ([.ref a])).length) Slot.unset).toArray = ls at hl ⊢
  have hl : lv_has ls 1 [(0, .ref a)] := hl
  refine va_gets (v := .int 1) hx hb hW.1.1 hS hown (hs (.fieldLink "java/lang/String" 38 "java/lang/String" "COMPACT_STRINGS" "Z") (by simp [wS])) (fun _ h9 => h9) dCod_0 ?_
  refine lv_if_eq (tgt := 13) hx hb dCod_3 (by decide) (fun z => absurd z (by decide)) (fun _ => ?_)
  refine lv_aload_n hx hb dCod_6 rfl (lv_at hl 0 rfl) ?_
  refine vk_getf hx hb hW.2.2.1 hS hown (hs (.fieldLink "java/lang/String" 15 "java/lang/String" "coder" "B") (by simp [wS])) (fun _ h9 => h9) dCod_7 ?_
  refine lv_goto (tgt := 14) hx hb dCod_10 (by decide) ?_
  exact W.zret (ty := .byte) (v := 0) hx hb hr (by decide) (fun t ht hW => ⟨⟨0, (), rfl, rfl, trivial⟩, hS.F ht⟩) hS.2.2 dCod_14 B.notSynchronized
theorem s_shr0 (x : Int32) : x >>> ((0 : Int32) &&& 31) = x := by
  have e : ((0 : Int32) &&& 31) = 0 := by decide
  rw [e]
  simp
theorem cLen : Met l yLen (kLen :: wS) { frames := 1, cells := 0, slots := 0, locals := 20 } (sPc [.ref a] a t N f) (sQi (Int32.ofNat N)) 0 0 sE := by
  refine Met.ofW (cc := prog_22_method_54_code) (maxL := 1) (ret := (some .int)) (by decide +kernel) rfl ?_
  intro p e s m args below meth c s₁ B hml hv
  obtain ⟨rfl, hW⟩ := hv
  have hx := B.exec
  have hb := B.bytes
  have hr := B.returns
  have hts := atoms_spec (ws := kLen :: wS) B.pre
  have hs : ∀ w ∈ wS, w.before _ s = true := fun w hw => hts w (List.mem_cons_of_mem _ hw)
  have hown : s.vm.findClass "java/lang/String" = some m.cls := findClass_of_methodNamed B.named
  have hS : va_S sE s.heap s.heap [] := va_S.rf
  have hl := lv_entry ([.ref a]) (n := 1) (Nat.le_of_ble_eq_true rfl)
  rw [lg_entry_eq]
  generalize (lg_sl ([.ref a]) ++ List.replicate (1 - (lg_sl ([.ref a])).length) Slot.unset).toArray = ls at hl ⊢
  have hl : lv_has ls 1 [(0, .ref a)] := hl
  refine lv_aload_n hx hb dLen_0 rfl (lv_at hl 0 rfl) ?_
  refine vk_getf hx hb hW.2.2.2.1 hS hown (hs (.fieldLink "java/lang/String" 9 "java/lang/String" "value" "[B") (by simp [wS])) (fun _ h9 => h9) dLen_1 ?_
  refine va_tlen hx hb hW.2.2.2.2 hS rfl dLen_4 ?_
  refine lv_aload_n hx hb dLen_5 rfl (lv_at hl 0 rfl) ?_
  refine va_calli (va_runV (As := []) (rest := [.int (Int32.ofNat N)]) ⟨hx, hb, hml, hown, hts⟩ (cCod l a t N f) ⟨callB_of 0 hts (sGood kLen_in (sIn kCod_in)) rfl rfl rfl (hs (.initialized "java/lang/String") (by simp [wS])) (hs (.methodLink "java/lang/String" 335 yCod) (by simp [wS])) (by decide +kernel) ⟨Nat.le_of_ble_eq_true rfl, Nat.le_of_ble_eq_true rfl⟩, hs (.instanceMethod yCod) (by simp [wS]), hs (.selects "java/lang/String" yCod yCod) (by simp [wS])⟩ ⟨sPc_b, sRecv hW, fun U hU hV => ⟨rfl, by show sWh _ _ _ _ U U.heap; rw [hU]; exact hW.moved hV.alike⟩⟩ rfl rfl hl.1 rfl (lv_room (Nat.le_of_ble_eq_true rfl)) dLen_6 ⟨Nat.le_refl _, Nat.le_refl _⟩) hS (fun q _ h => h) (fun q h => h) (fun r u t1 H1 locs1 ht hv hw _ hz hk hS1 => ?_)
  have hw : r = 0 := hw
  subst hw
  refine lv_ishr hx hb dLen_9 ?_
  rw [s_shr0]
  exact W.iret (v := Int32.ofNat N) hx hb hr (fun t ht hW => ⟨⟨_, (), rfl, rfl, trivial⟩, hS1.F ht⟩) hS1.2.2 dLen_10 B.notSynchronized
theorem cChA {i x : Int32} (h0 : ¬ i < 0) (h1 : i < Int32.ofNat N) (h2 : vp_in i N) (h3 : f i.toNatClampNeg = .int x) (h4 : ((x &&& 255).toUInt32 % 65536).toInt32 = x) (h5 : narrow .char (.int x) = .int x) : Met l yChA (kChA :: wS) { frames := 3, cells := 0, slots := 0, locals := 64 } (sPc [.ref a, .int i] a t N f) (sQi x) 0 0 sE := by
  refine Met.ofW (cc := prog_22_method_56_code) (maxL := 2) (ret := (some .char)) (by decide +kernel) rfl ?_
  intro p e s m args below meth c s₁ B hml hv
  obtain ⟨rfl, hW⟩ := hv
  have hx := B.exec
  have hb := B.bytes
  have hr := B.returns
  have hts := atoms_spec (ws := kChA :: wS) B.pre
  have hs : ∀ w ∈ wS, w.before _ s = true := fun w hw => hts w (List.mem_cons_of_mem _ hw)
  have hown : s.vm.findClass "java/lang/String" = some m.cls := findClass_of_methodNamed B.named
  have hS : va_S sE s.heap s.heap [] := va_S.rf
  have hl := lv_entry ([.ref a, .int i]) (n := 2) (Nat.le_of_ble_eq_true rfl)
  rw [lg_entry_eq]
  generalize (lg_sl ([.ref a, .int i]) ++ List.replicate (2 - (lg_sl ([.ref a, .int i])).length) Slot.unset).toArray = ls at hl ⊢
  have hl : lv_has ls 2 [(0, .ref a), (1, .int i)] := hl
  refine lv_aload_n hx hb dChA_0 rfl (lv_at hl 0 rfl) ?_
  refine va_calli (va_runV (As := []) (rest := []) ⟨hx, hb, hml, hown, hts⟩ (cIsL l a t N f) ⟨callB_of 0 hts (sGood kChA_in (sIn kIsL_in)) rfl rfl rfl (hs (.initialized "java/lang/String") (by simp [wS])) (hs (.methodLink "java/lang/String" 492 yIsL) (by simp [wS])) (by decide +kernel) ⟨Nat.le_of_ble_eq_true rfl, Nat.le_of_ble_eq_true rfl⟩, hs (.instanceMethod yIsL) (by simp [wS]), hs (.selects "java/lang/String" yIsL yIsL) (by simp [wS])⟩ ⟨sPc_b, sRecv hW, fun U hU hV => ⟨rfl, by show sWh _ _ _ _ U U.heap; rw [hU]; exact hW.moved hV.alike⟩⟩ rfl rfl hl.1 rfl (lv_room (Nat.le_of_ble_eq_true rfl)) dChA_1 ⟨Nat.le_refl _, Nat.le_refl _⟩) hS (fun q _ h => h) (fun q h => h) (fun r u t1 H1 locs1 ht hv hw _ hz hk hS1 => ?_)
  have hw : r = 1 := hw
  subst hw
  refine lv_if_eq (tgt := 16) hx hb dChA_4 (by decide) (fun z => absurd z (by decide)) (fun _ => ?_)
  refine lv_aload_n hx hb dChA_7 rfl (lv_at hl 0 rfl) ?_
  refine vk_getf hx hb hW.2.2.2.1 hS1 hown (hs (.fieldLink "java/lang/String" 9 "java/lang/String" "value" "[B") (by simp [wS])) (fun _ h9 => h9) dChA_8 ?_
  refine lv_iload_n hx hb dChA_11 rfl (lv_at hl 1 rfl) ?_
  refine va_calli (va_runS (As := [.ref t, .int i]) (rest := []) ⟨hx, hb, hml, hown, hts⟩ (cLat l a t N f h0 h1 h2 h3 h4 h5) ⟨callB_of 2 hts (sGood kChA_in (sIn kLat_in)) rfl rfl rfl (hs (.initialized "java/lang/StringLatin1") (by simp [wS])) (hs (.methodLink "java/lang/String" 495 yLat) (by simp [wS])) (by decide +kernel) ⟨Nat.le_of_ble_eq_true rfl, Nat.le_of_ble_eq_true rfl⟩, hs (.static yLat) (by simp [wS])⟩ ⟨sPc_b, fun U hU hV => ⟨rfl, by show sWh _ _ _ _ U U.heap; rw [hU]; exact (hW.kept hk).moved hV.alike⟩⟩ rfl rfl hl.1 rfl (lv_room (Nat.le_of_ble_eq_true rfl)) dChA_12 ⟨Nat.le_refl _, Nat.le_refl _⟩) hS1 (fun q _ h => h) (fun q h => h) (fun r u t2 H2 locs2 ht hv hw _ hz hk hS2 => ?_)
  have hw : r = x := hw
  subst hw
  exact W.zret (ty := .char) (v := r) hx hb hr h5 (fun t ht hW => ⟨⟨r, (), rfl, rfl, trivial⟩, hS2.F ht⟩) hS2.2.2 dChA_15 B.notSynchronized
end STR
theorem zStr_len : zStr.length = 42 := by decide +kernel
theorem zStr_ok : zStr.all (fun l => l.all (fun c => decide ((((Int32.ofInt c) &&& 255).toUInt32 % 65536).toInt32 = Int32.ofInt c ∧ narrow .char (.int (Int32.ofInt c)) = .int (Int32.ofInt c) ∧ -2147483648 ≤ c ∧ c ≤ 2147483647)) && decide (l.length ≤ 2147483647)) = true := by decide +kernel
theorem zStr_at {j k : Nat} (hj : j < zStr.length) (hk : k < (zStr.getD j []).length) : (((Int32.ofInt ((zStr.getD j []).getD k 0)) &&& 255).toUInt32 % 65536).toInt32 = Int32.ofInt ((zStr.getD j []).getD k 0) ∧ narrow .char (.int (Int32.ofInt ((zStr.getD j []).getD k 0))) = .int (Int32.ofInt ((zStr.getD j []).getD k 0)) ∧ zr32 ((zStr.getD j []).getD k 0) := by
  have hm : zStr.getD j [] ∈ zStr := by
    rw [List.getD_eq_getElem?_getD, List.getElem?_eq_getElem hj]
    exact List.getElem_mem hj
  have h1 := List.all_eq_true.mp zStr_ok _ hm
  rw [Bool.and_eq_true] at h1
  generalize zStr.getD j [] = L at hk h1 ⊢
  have hm2 : L.getD k 0 ∈ L := by
    rw [List.getD_eq_getElem?_getD, List.getElem?_eq_getElem hk]
    exact List.getElem_mem hk
  have h2 := of_decide_eq_true (List.all_eq_true.mp h1.1 _ hm2)
  exact ⟨h2.1, h2.2.1, h2.2.2⟩
theorem zStr_ln {j : Nat} (hj : j < zStr.length) : (zStr.getD j []).length ≤ 2147483647 := by
  have hm : zStr.getD j [] ∈ zStr := by
    rw [List.getD_eq_getElem?_getD, List.getElem?_eq_getElem hj]
    exact List.getElem_mem hj
  have h1 := List.all_eq_true.mp zStr_ok _ hm
  rw [Bool.and_eq_true] at h1
  exact of_decide_eq_true h1.2
section ZT
variable {l : Launch} {D : va_G} {κ : Nat → ClassId} {ρ : Nat → Nat} {A : Nat → Prop} {g : Int → Int} {d μ pc len : Nat} {a b : Int} {ls st : List zV} {S : zS} {r : zO} {i : Instr}
theorem sW_of {s : State} {H : Heap} {locs : List Loc} {j : Nat} (hKn : zKn ρ A g s) (hS : va_S A s.heap H locs) (hj : j < 42) : sWh (ρ (100 + j)) (ρ (200 + j)) (zStr.getD j []).length (fun k => .int (Int32.ofInt ((zStr.getD j []).getD k 0))) s H := by
  obtain ⟨-, c2, c3, c4, c5⟩ := hKn.2.2.1 j hj
  obtain ⟨z1, z2⟩ := hKn.2.2.2.2.2.1
  exact ⟨⟨(z1.kept hS.2.1).narrow (fun _ h => False.elim h), (z2.kept hS.2.1).narrow (fun _ h => False.elim h)⟩, (c2.kept hS.2.1).narrow (fun _ h => False.elim h), (c3.kept hS.2.1).narrow (fun _ h => False.elim h), (c4.kept hS.2.1).narrow (fun _ h => False.elim h), (c5.kept hS.2.1).narrow (fun _ h => False.elim h)⟩
theorem sGd {k : Cond} (hk : k ∈ wS) : GoodIn zGd (k :: wS) := fun w hw => ⟨wS_z (sIn hk w hw), good_of_word (wS_g w (sIn hk w hw))⟩
theorem zp37 (hd : decode (zB μ) pc = .ok (i, len)) (hf : zFo (zMof μ).1 μ pc len 37 a b i = true) {j : Int} (hj0 : 0 ≤ j) (hj : j.toNat < zStr.length) (hcat : (st.map zcat).sum ≤ 8) (h : zSnd l D κ ρ A g d μ (pc + len) ls ((0, ((zStr.getD j.toNat []).length : Int)) :: st) S r) : zSnd l D κ ρ A g d μ pc ls ((5, j) :: st) S r := by
  refine ⟨h.1, fun p e R s m args below meth c C σ0 n0 σ H locs cells slots lsC hn0 hσ hP hD hS hI hl hst hce hsl => ?_⟩
  obtain ⟨⟨hlt, hx, hb, hml, hown, hts⟩, ⟨hr, hlk, hnm, htb⟩, hK, hKn, hA, hfr, hlo⟩ := id C
  obtain ⟨-, hst⟩ := List.forall_mem_cons.mp hst
  have hcs : ((st.map (zc σ ρ)).map fun v => v.category).sum ≤ 8 := by rw [z_catsum]; exact hcat
  simp only [zFo, Bool.and_eq_true, beq_iff_eq, zIe_eq] at hf
  obtain ⟨⟨e1, e2⟩, e3⟩ := hf
  subst e1; subst e2
  have hw := (zEs_in (e := (37, (zMof μ).1, b.toNat, 0)) (by simpa using e3)).1
  have hj42 : j.toNat < 42 := by rw [← zStr_len]; exact hj
  have hW := sW_of hKn hS hj42
  have hln := zStr_ln hj
  refine va_calli (va_runV (As := []) (b := ρ (100 + j.toNat)) (rest := st.map (zc σ ρ)) (nL := (zMof μ).2.2.1) ⟨hx, hb, hml, hown, hts⟩ (cLen l (ρ (100 + j.toNat)) (ρ (200 + j.toNat)) (zStr.getD j.toNat []).length (fun k => .int (Int32.ofInt ((zStr.getD j.toNat []).getD k 0)))) ⟨callB_of 0 hts (sGd kLen_in) rfl rfl rfl (hts _ (wS_z (w := .initialized "java/lang/String") (by simp [wS]))) (hts _ (zGd_in hw rfl)) (by decide +kernel) ⟨by dsimp only; omega, by dsimp only; omega⟩, hts _ (wS_z (w := .instanceMethod yLen) (by simp [wS])), hts _ (wS_z (w := .selects "java/lang/String" yLen yLen) (by simp [wS]))⟩ ⟨sPc_b, sRecv hW, fun U hU hV => ⟨rfl, by show sWh _ _ _ _ U U.heap; rw [hU]; exact hW.moved hV.alike⟩⟩ rfl rfl hl.2.1.1 rfl (lv_room hcs) hd ⟨by omega, by omega⟩) hS (fun q _ z => False.elim z) (fun q z => False.elim z) (fun r' u t H1 locs1 ht hv hw _ hz hk hS1 => ?_)
  have hw : r' = Int32.ofNat (zStr.getD j.toNat []).length := hw
  subst hw
  have hk' : ∀ q : Nat, q < H.size → H1[q]? = H[q]? := fun q hq => hk q hq (fun z => z)
  have kk := h.2 p e R s m args below meth c C σ0 n0 σ H1 locs1 cells slots lsC hn0 hσ (hP.kept (fun k q hq => hk' q.1 (hP k q hq).lt)) hD hS1 hI hl (z_cons (v := (0, ((zStr.getD j.toNat []).length : Int))) (show zr32 ((zStr.getD j.toNat []).length : Int) by unfold zr32; omega) hst) hce hsl
  rw [← Int32.ofInt_eq_ofNat]
  exact kk
theorem zp38 (hd : decode (zB μ) pc = .ok (i, len)) (hf : zFo (zMof μ).1 μ pc len 38 a b i = true) {k j : Int} (hj0 : 0 ≤ j) (hj : j.toNat < zStr.length) (hk0 : 0 ≤ k) (hk : k < (zStr.getD j.toNat []).length) (hcat : (st.map zcat).sum ≤ 8) (h : zSnd l D κ ρ A g d μ (pc + len) ls ((0, (zStr.getD j.toNat []).getD k.toNat 0) :: st) S r) : zSnd l D κ ρ A g d μ pc ls ((0, k) :: (5, j) :: st) S r := by
  refine ⟨h.1, fun p e R s m args below meth c C σ0 n0 σ H locs cells slots lsC hn0 hσ hP hD hS hI hl hst hce hsl => ?_⟩
  obtain ⟨⟨hlt, hx, hb, hml, hown, hts⟩, ⟨hr, hlk, hnm, htb⟩, hK, hKn, hA, hfr, hlo⟩ := id C
  obtain ⟨h2, hst⟩ := List.forall_mem_cons.mp hst
  obtain ⟨-, hst⟩ := List.forall_mem_cons.mp hst
  have h2 : zr32 k := h2
  have hcs : ((st.map (zc σ ρ)).map fun v => v.category).sum ≤ 8 := by rw [z_catsum]; exact hcat
  simp only [zFo, Bool.and_eq_true, beq_iff_eq, zIe_eq] at hf
  obtain ⟨⟨e1, e2⟩, e3⟩ := hf
  subst e1; subst e2
  have hw := (zEs_in (e := (38, (zMof μ).1, b.toNat, 0)) (by simpa using e3)).1
  have hj42 : j.toNat < 42 := by rw [← zStr_len]; exact hj
  have hW := sW_of hKn hS hj42
  have hln := zStr_ln hj
  obtain ⟨x1, x2, x3⟩ := zStr_at hj (show k.toNat < (zStr.getD j.toNat []).length by omega)
  have i0 : ¬ Int32.ofInt k < 0 := fun z => by
    have := (zlt h2 zr32_0).mp z
    omega
  have i1 : Int32.ofInt k < Int32.ofNat (zStr.getD j.toNat []).length := by
    rw [← Int32.ofInt_eq_ofNat]
    exact (zlt h2 (show zr32 ((zStr.getD j.toNat []).length : Int) by unfold zr32; omega)).mpr hk
  refine va_calli (va_runV (As := [.int (Int32.ofInt k)]) (b := ρ (100 + j.toNat)) (rest := st.map (zc σ ρ)) (nL := (zMof μ).2.2.1) ⟨hx, hb, hml, hown, hts⟩ (cChA l (ρ (100 + j.toNat)) (ρ (200 + j.toNat)) (zStr.getD j.toNat []).length (fun k => .int (Int32.ofInt ((zStr.getD j.toNat []).getD k 0))) i0 i1 (zvp h2 hk0 hk) (show Value.int (Int32.ofInt ((zStr.getD j.toNat []).getD (Int32.ofInt k).toNatClampNeg 0)) = .int (Int32.ofInt ((zStr.getD j.toNat []).getD k.toNat 0)) by rw [zclamp h2]) x1 x2) ⟨callB_of 1 hts (sGd kChA_in) rfl rfl rfl (hts _ (wS_z (w := .initialized "java/lang/String") (by simp [wS]))) (hts _ (zGd_in hw rfl)) (by decide +kernel) ⟨by dsimp only; omega, by dsimp only; omega⟩, hts _ (wS_z (w := .instanceMethod yChA) (by simp [wS])), hts _ (wS_z (w := .selects "java/lang/String" yChA yChA) (by simp [wS]))⟩ ⟨sPc_b, sRecv hW, fun U hU hV => ⟨rfl, by show sWh _ _ _ _ U U.heap; rw [hU]; exact hW.moved hV.alike⟩⟩ rfl rfl hl.2.1.1 rfl (lv_room hcs) hd ⟨by omega, by omega⟩) hS (fun q _ z => False.elim z) (fun q z => False.elim z) (fun r' u t H1 locs1 ht hv hw _ hz hk9 hS1 => ?_)
  have hw : r' = Int32.ofInt ((zStr.getD j.toNat []).getD k.toNat 0) := hw
  subst hw
  have hk' : ∀ q : Nat, q < H.size → H1[q]? = H[q]? := fun q hq => hk9 q hq (fun z => z)
  exact h.2 p e R s m args below meth c C σ0 n0 σ H1 locs1 cells slots lsC hn0 hσ (hP.kept (fun k q hq => hk' q.1 (hP k q hq).lt)) hD hS1 hI hl (z_cons (v := (0, (zStr.getD j.toNat []).getD k.toNat 0)) x3 hst) hce hsl
end ZT
