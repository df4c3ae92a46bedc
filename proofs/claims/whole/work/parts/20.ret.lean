section ZT
variable {l : Launch} {D : va_G} {κ : Nat → ClassId} {ρ : Nat → Nat} {A : Nat → Prop} {g : Int → Int} {d μ pc len : Nat} {a b : Int} {ls st : List zV} {S : zS} {i : Instr}
theorem zp33 (hd : decode (zB μ) pc = .ok (i, len)) (hf : zFo (zMof μ).1 μ pc len 33 a b i = true) (hr : zRetOk (zMof μ).2.2.2.2.1 st) : zSnd l D κ ρ A g d μ pc ls st S (.inl st, S) := by
  refine ⟨⟨Nat.le_refl _, Nat.le_refl _⟩, fun p e R s m args below meth c C σ0 n0 σ H locs cells slots lsC hn0 hσ hP hD hS hI hl hst hce hsl => ?_⟩
  obtain ⟨⟨hlt, hx, hb, hml, hown, hts⟩, ⟨hr1, hlk, hnm, htb⟩, hK, hKn, hA, hfr, hlo⟩ := id C
  refine W.widen (k := R.cells) (n := R.slots) (by omega) (by omega) ?_
  have hq : ∀ t : State, t.heap = H → s.WarmedH t.vm → zWd D κ σ A g S t ∧ va_F A s t := fun t ht hW => ⟨⟨by rw [ht]; exact hP, va_K.moved hW.alike hK, hD, hI⟩, hS.F ht⟩
  simp only [zFo, Bool.and_eq_true, Bool.or_eq_true, beq_iff_eq, zIe_eq] at hf
  obtain ⟨e2, hf⟩ := hf
  subst e2
  unfold zRt at hr1
  unfold zRetOk at hr
  rcases hf with (⟨e1, hc⟩ | ⟨e1, hc | hc⟩) | ⟨e1, hc⟩ <;> subst e1 <;> rw [hc] at hr hr1
  · have hr : st = [] := hr
    subst hr
    exact vx_ret (W.vret hx hb hr1 (fun t ht hW => ⟨[], σ, rfl, hσ, rfl, by simp, fun v h => by simp at h, (hq t ht hW).1, (hq t ht hW).2⟩) hS.2.2 hd hlk)
  · have hr : ∃ x, st = [(0, x)] := hr
    obtain ⟨x, rfl⟩ := hr
    exact vx_ret (W.iret (v := Int32.ofInt x) hx hb hr1 (fun t ht hW => ⟨[(0, x)], σ, rfl, hσ, rfl, by simp, hst, (hq t ht hW).1, (hq t ht hW).2⟩) hS.2.2 hd hlk)
  · have hr : ∃ x, st = [(0, x)] ∧ (x = 0 ∨ x = 1) := hr
    obtain ⟨x, rfl, hx01⟩ := hr
    refine vx_ret (W.zret (v := Int32.ofInt x) (ty := .boolean) hx hb hr1 ?_ (fun t ht hW => ⟨[(0, x)], σ, rfl, hσ, rfl, by simp, hst, (hq t ht hW).1, (hq t ht hW).2⟩) hS.2.2 hd hlk)
    rcases hx01 with rfl | rfl <;> decide
  · have hr : ∃ x, st = [(1, x)] := hr
    obtain ⟨x, rfl⟩ := hr
    exact vx_ret (W.lret (v := Int64.ofInt x) hx hb hr1 (fun t ht hW => ⟨[(1, x)], σ, rfl, hσ, rfl, by simp, hst, (hq t ht hW).1, (hq t ht hW).2⟩) hS.2.2 hd hlk)
/-- the three places that throw -/
def zThC (μ : Nat) (e : Nat × zI) : Bool := !(e.2.1 == 34) || decide ((μ, e.1, e.2.2.1, e.2.2.2.1) ∈ [(62, 14, (1 : Int), (369 : Int)), (117, 19, (0 : Int), (362 : Int)), (140, 21, (2 : Int), (374 : Int))])
set_option maxRecDepth 100000 in
theorem zTh_0 : (List.range' 0 40).all (fun μ => (zCL μ).all (zThC μ)) = true := by decide +kernel
set_option maxRecDepth 100000 in
theorem zTh_40 : (List.range' 40 40).all (fun μ => (zCL μ).all (zThC μ)) = true := by decide +kernel
set_option maxRecDepth 100000 in
theorem zTh_80 : (List.range' 80 40).all (fun μ => (zCL μ).all (zThC μ)) = true := by decide +kernel
set_option maxRecDepth 100000 in
theorem zTh_120 : (List.range' 120 40).all (fun μ => (zCL μ).all (zThC μ)) = true := by decide +kernel
set_option maxRecDepth 100000 in
theorem zTh_160 : (List.range' 160 40).all (fun μ => (zCL μ).all (zThC μ)) = true := by decide +kernel
set_option maxRecDepth 100000 in
theorem zTh_200 : (List.range' 200 40).all (fun μ => (zCL μ).all (zThC μ)) = true := by decide +kernel
set_option maxRecDepth 100000 in
theorem zTh_240 : (List.range' 240 40).all (fun μ => (zCL μ).all (zThC μ)) = true := by decide +kernel
set_option maxRecDepth 100000 in
theorem zTh_280 : (List.range' 280 40).all (fun μ => (zCL μ).all (zThC μ)) = true := by decide +kernel
set_option maxRecDepth 100000 in
theorem zTh_320 : (List.range' 320 15).all (fun μ => (zCL μ).all (zThC μ)) = true := by decide +kernel
theorem zTh_all (μ : Nat) (h1 : μ < 335) : (zCL μ).all (zThC μ) = true := by
  rcases Nat.lt_or_ge μ 40 with h | h
  · exact List.all_eq_true.mp zTh_0 μ (List.mem_range'_1.mpr ⟨by omega, by omega⟩)
  rcases Nat.lt_or_ge μ 80 with h | h
  · exact List.all_eq_true.mp zTh_40 μ (List.mem_range'_1.mpr ⟨by omega, by omega⟩)
  rcases Nat.lt_or_ge μ 120 with h | h
  · exact List.all_eq_true.mp zTh_80 μ (List.mem_range'_1.mpr ⟨by omega, by omega⟩)
  rcases Nat.lt_or_ge μ 160 with h | h
  · exact List.all_eq_true.mp zTh_120 μ (List.mem_range'_1.mpr ⟨by omega, by omega⟩)
  rcases Nat.lt_or_ge μ 200 with h | h
  · exact List.all_eq_true.mp zTh_160 μ (List.mem_range'_1.mpr ⟨by omega, by omega⟩)
  rcases Nat.lt_or_ge μ 240 with h | h
  · exact List.all_eq_true.mp zTh_200 μ (List.mem_range'_1.mpr ⟨by omega, by omega⟩)
  rcases Nat.lt_or_ge μ 280 with h | h
  · exact List.all_eq_true.mp zTh_240 μ (List.mem_range'_1.mpr ⟨by omega, by omega⟩)
  rcases Nat.lt_or_ge μ 320 with h | h
  · exact List.all_eq_true.mp zTh_280 μ (List.mem_range'_1.mpr ⟨by omega, by omega⟩)
  rcases Nat.lt_or_ge μ 335 with h | h
  · exact List.all_eq_true.mp zTh_320 μ (List.mem_range'_1.mpr ⟨by omega, by omega⟩)
  omega
theorem zTh (hμ : μ < 335) (hc : zC μ pc = some (34, a, b, len)) : (μ, pc, a, b) ∈ [(62, 14, (1 : Int), (369 : Int)), (117, 19, (0 : Int), (362 : Int)), (140, 21, (2 : Int), (374 : Int))] := by
  have hm := z_lookup (show (zCL μ).lookup pc = some (34, a, b, len) from hc)
  have hk := List.all_eq_true.mp (zTh_all μ hμ) _ hm
  unfold zThC at hk
  dsimp only at hk
  simpa using hk
def zNg : List Cond := zCastL.map (fun q => Cond.castable q.1 q.2) ++ zDeclL.map Cond.declares
set_option maxRecDepth 100000 in
theorem zTg_0 : ∀ w ∈ (vx_atS "RainWheel" 373 "java/lang/IllegalArgumentException" ["java/lang/RuntimeException", "java/lang/Exception"]).filter goodWord, w ∈ lw_tbl := by decide +kernel
set_option maxRecDepth 100000 in
theorem zTn_0 : ∀ w ∈ (vx_atS "RainWheel" 373 "java/lang/IllegalArgumentException" ["java/lang/RuntimeException", "java/lang/Exception"]).filter (fun w => !goodWord w), w ∈ zNg := by decide +kernel
set_option maxRecDepth 100000 in
theorem zTo_0 : ∀ w ∈ Cond.classLink "RainWheel" 369 "java/lang/IllegalArgumentException" :: Cond.initialized "java/lang/IllegalArgumentException" :: vx_atS "RainWheel" 373 "java/lang/IllegalArgumentException" ["java/lang/RuntimeException", "java/lang/Exception"], vx_ot w = true := by decide +kernel
set_option maxRecDepth 100000 in
theorem zTk_0 : Cond.classLink "RainWheel" 369 "java/lang/IllegalArgumentException" ∈ zGd ∧ Cond.initialized "java/lang/IllegalArgumentException" ∈ zGd := ⟨zGd_in (zch2 (List.mem_of_getElem? (i := 118) rfl)) rfl, zGd_in (zch0 (List.mem_of_getElem? (i := 17) rfl)) rfl⟩
theorem zTd_0_0 : decode (zB 62) 14 = .ok (.new 369, 3) := by decide +kernel
theorem zTd_0_3 : decode (zB 62) 17 = .ok (.dup, 1) := by decide +kernel
theorem zTd_0_4 : decode (zB 62) 18 = .ok (.ldc_w 371, 3) := by decide +kernel
theorem zTd_0_7 : decode (zB 62) 21 = .ok (.invokespecial 373, 3) := by decide +kernel
theorem zTd_0_10 : decode (zB 62) 24 = .ok (.athrow, 1) := by decide +kernel
set_option maxRecDepth 100000 in
theorem zTg_2 : ∀ w ∈ (vx_atS "RainWheel" 378 "java/lang/IllegalStateException" ["java/lang/RuntimeException", "java/lang/Exception"]).filter goodWord, w ∈ lw_tbl := by decide +kernel
set_option maxRecDepth 100000 in
theorem zTn_2 : ∀ w ∈ (vx_atS "RainWheel" 378 "java/lang/IllegalStateException" ["java/lang/RuntimeException", "java/lang/Exception"]).filter (fun w => !goodWord w), w ∈ zNg := by decide +kernel
set_option maxRecDepth 100000 in
theorem zTo_2 : ∀ w ∈ Cond.classLink "RainWheel" 374 "java/lang/IllegalStateException" :: Cond.initialized "java/lang/IllegalStateException" :: vx_atS "RainWheel" 378 "java/lang/IllegalStateException" ["java/lang/RuntimeException", "java/lang/Exception"], vx_ot w = true := by decide +kernel
set_option maxRecDepth 100000 in
theorem zTk_2 : Cond.classLink "RainWheel" 374 "java/lang/IllegalStateException" ∈ zGd ∧ Cond.initialized "java/lang/IllegalStateException" ∈ zGd := ⟨zGd_in (zch4 (List.mem_of_getElem? (i := 115) rfl)) rfl, zGd_in (zch0 (List.mem_of_getElem? (i := 24) rfl)) rfl⟩
theorem zTd_2_0 : decode (zB 140) 21 = .ok (.new 374, 3) := by decide +kernel
theorem zTd_2_3 : decode (zB 140) 24 = .ok (.dup, 1) := by decide +kernel
theorem zTd_2_4 : decode (zB 140) 25 = .ok (.ldc_w 376, 3) := by decide +kernel
theorem zTd_2_7 : decode (zB 140) 28 = .ok (.invokespecial 378, 3) := by decide +kernel
theorem zTd_2_10 : decode (zB 140) 31 = .ok (.athrow, 1) := by decide +kernel
end ZT
