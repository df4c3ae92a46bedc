/-! making objects and arrays -/
set_option maxRecDepth 100000 in
theorem zwy50 : Cond.arrayClass (newarray.typeOf (zAt 50)) ∈ zGd := zGd_in (zch0 (List.mem_of_getElem? (i := 114) rfl)) rfl
set_option maxRecDepth 100000 in
theorem zwy51 : Cond.arrayClass (newarray.typeOf (zAt 51)) ∈ zGd := zGd_in (zch0 (List.mem_of_getElem? (i := 64) rfl)) rfl
set_option maxRecDepth 100000 in
theorem zwy52 : Cond.arrayClass (newarray.typeOf (zAt 52)) ∈ zGd := zGd_in (zch6 (List.mem_of_getElem? (i := 188) rfl)) rfl
set_option maxRecDepth 100000 in
theorem zwy53 : Cond.arrayClass (newarray.typeOf (zAt 53)) ∈ zGd := zGd_in (zch8 (List.mem_of_getElem? (i := 189) rfl)) rfl
set_option maxRecDepth 100000 in
theorem zwn0 : Cond.instantiable (zT3 0).1 (zT3 0).2.2 ∈ zGd ∧ Cond.initialized (zT3 0).1 ∈ zGd := ⟨zGd_in (zch1 (List.mem_of_getElem? (i := 72) rfl)) rfl, zGd_in (zch0 (List.mem_of_getElem? (i := 11) rfl)) rfl⟩
set_option maxRecDepth 100000 in
theorem zwn1 : Cond.instantiable (zT3 1).1 (zT3 1).2.2 ∈ zGd ∧ Cond.initialized (zT3 1).1 ∈ zGd := ⟨zGd_in (zch0 (List.mem_of_getElem? (i := 66) rfl)) rfl, zGd_in (zch0 (List.mem_of_getElem? (i := 3) rfl)) rfl⟩
set_option maxRecDepth 100000 in
theorem zwn2 : Cond.instantiable (zT3 2).1 (zT3 2).2.2 ∈ zGd ∧ Cond.initialized (zT3 2).1 ∈ zGd := ⟨zGd_in (zch0 (List.mem_of_getElem? (i := 173) rfl)) rfl, zGd_in (zch0 (List.mem_of_getElem? (i := 6) rfl)) rfl⟩
set_option maxRecDepth 100000 in
theorem zwn3 : Cond.instantiable (zT3 3).1 (zT3 3).2.2 ∈ zGd ∧ Cond.initialized (zT3 3).1 ∈ zGd := ⟨zGd_in (zch1 (List.mem_of_getElem? (i := 14) rfl)) rfl, zGd_in (zch0 (List.mem_of_getElem? (i := 9) rfl)) rfl⟩
set_option maxRecDepth 100000 in
theorem zwn4 : Cond.instantiable (zT3 4).1 (zT3 4).2.2 ∈ zGd ∧ Cond.initialized (zT3 4).1 ∈ zGd := ⟨zGd_in (zch1 (List.mem_of_getElem? (i := 37) rfl)) rfl, zGd_in (zch0 (List.mem_of_getElem? (i := 10) rfl)) rfl⟩
set_option maxRecDepth 100000 in
theorem zwn5 : Cond.instantiable (zT3 5).1 (zT3 5).2.2 ∈ zGd ∧ Cond.initialized (zT3 5).1 ∈ zGd := ⟨zGd_in (zch0 (List.mem_of_getElem? (i := 160) rfl)) rfl, zGd_in (zch0 (List.mem_of_getElem? (i := 5) rfl)) rfl⟩
set_option maxRecDepth 100000 in
theorem zwn6 : Cond.instantiable (zT3 6).1 (zT3 6).2.2 ∈ zGd ∧ Cond.initialized (zT3 6).1 ∈ zGd := ⟨zGd_in (zch0 (List.mem_of_getElem? (i := 188) rfl)) rfl, zGd_in (zch0 (List.mem_of_getElem? (i := 7) rfl)) rfl⟩
set_option maxRecDepth 100000 in
theorem zwn7 : Cond.instantiable (zT3 7).1 (zT3 7).2.2 ∈ zGd ∧ Cond.initialized (zT3 7).1 ∈ zGd := ⟨zGd_in (zch0 (List.mem_of_getElem? (i := 116) rfl)) rfl, zGd_in (zch0 (List.mem_of_getElem? (i := 4) rfl)) rfl⟩
set_option maxRecDepth 100000 in
theorem zwn8 : Cond.instantiable (zT3 8).1 (zT3 8).2.2 ∈ zGd ∧ Cond.initialized (zT3 8).1 ∈ zGd := ⟨zGd_in (zch0 (List.mem_of_getElem? (i := 35) rfl)) rfl, zGd_in (zch0 (List.mem_of_getElem? (i := 2) rfl)) rfl⟩
set_option maxRecDepth 100000 in
theorem zwn9 : Cond.instantiable (zT3 9).1 (zT3 9).2.2 ∈ zGd ∧ Cond.initialized (zT3 9).1 ∈ zGd := ⟨zGd_in (zch0 (List.mem_of_getElem? (i := 27) rfl)) rfl, zGd_in (zch0 (List.mem_of_getElem? (i := 1) rfl)) rfl⟩
set_option maxRecDepth 100000 in
theorem zwn10 : Cond.instantiable (zT3 10).1 (zT3 10).2.2 ∈ zGd ∧ Cond.initialized (zT3 10).1 ∈ zGd := ⟨zGd_in (zch5 (List.mem_of_getElem? (i := 191) rfl)) rfl, zGd_in (zch0 (List.mem_of_getElem? (i := 12) rfl)) rfl⟩
theorem zwn {ci : Nat} (h : ci < 11) : Cond.instantiable (zT3 ci).1 (zT3 ci).2.2 ∈ zGd ∧ Cond.initialized (zT3 ci).1 ∈ zGd := by
  have : ci = 0 ∨ ci = 1 ∨ ci = 2 ∨ ci = 3 ∨ ci = 4 ∨ ci = 5 ∨ ci = 6 ∨ ci = 7 ∨ ci = 8 ∨ ci = 9 ∨ ci = 10 := by omega
  rcases this with rfl | rfl | rfl | rfl | rfl | rfl | rfl | rfl | rfl | rfl | rfl
  · exact zwn0
  · exact zwn1
  · exact zwn2
  · exact zwn3
  · exact zwn4
  · exact zwn5
  · exact zwn6
  · exact zwn7
  · exact zwn8
  · exact zwn9
  · exact zwn10
def zNs (σ : Nat → Nat) (n q : Nat) : Nat → Nat := fun j => if j = n + 1 then q else σ j
theorem zNs_old {σ : Nat → Nat} {n q : Nat} : ∀ j, j ≤ n → zNs σ n q j = σ j := fun j hj => by unfold zNs; rw [if_neg (by omega)]
theorem zNs_new {σ : Nat → Nat} {n q : Nat} : zNs σ n q (n + 1) = q := by unfold zNs; rw [if_pos rfl]
theorem hz_old {h : zH} {n o : Nat} (ho : o ≤ n) (k : Int) : hz h (n + 1) o k = h o k := by
  unfold hz
  rw [if_neg (by omega)]
theorem zFits_0 (n kind k : Nat) : zFits n kind k 0 := by
  unfold zFits zr32 zr64
  split
  · split <;> omega
  · split
    · omega
    · split <;> omega
theorem zFits_mono {n n' kind k : Nat} {v : Int} (h : n ≤ n') (hv : zFits n kind k v) : zFits n' kind k v := by
  unfold zFits at hv ⊢
  split
  · rename_i e
    rw [if_pos e] at hv
    split
    · rename_i e2
      rw [if_pos e2] at hv
      omega
    · rename_i e2
      rw [if_neg e2] at hv
      exact hv
  · rename_i e
    rw [if_neg e] at hv
    split
    · rename_i e2
      rw [if_pos e2] at hv
      exact hv
    · rename_i e2
      rw [if_neg e2] at hv
      split
      · rename_i e3
        rw [if_pos e3] at hv
        exact hv
      · rename_i e3
        rw [if_neg e3] at hv
        omega
theorem zInv_new {g : Int → Int} {n cx : Nat} {h : zH} (hI : zInv g (false, n, cx, h)) (h156 : n + 1 ≤ 156) : zInv g (false, n + 1, cx, hz h (n + 1)) := by
  refine ⟨fun o h1 h2 k => ?_, fun q => (by cases q), ?_, h156⟩
  · show zFits (n + 1) _ k (hz h (n + 1) o k)
    rcases Nat.lt_or_ge o (n + 1) with q | q
    · rw [hz_old (by omega)]
      exact zFits_mono (Nat.le_succ n) (hI.1 o h1 (by show o ≤ n; omega) k)
    · have e : o = n + 1 := by have h2 : o ≤ n + 1 := h2; omega
      unfold hz
      rw [if_pos (by omega)]
      exact zFits_0 _ _ _
  · show hz h (n + 1) 0 = g
    have : hz h (n + 1) 0 = h 0 := funext (fun k => hz_old (n := n) (o := 0) (Nat.zero_le n) k)
    rw [this]
    exact hI.2.2.1
theorem zK_bound {r : Int} (h : (zK r).1 ≠ 99) : r ≤ 156 := by
  by_cases q : r ≤ 156
  · exact q
  · exfalso
    apply h
    unfold zK
    rw [List.getD_eq_getElem?_getD, List.getElem?_eq_none (by show zKL.length ≤ _; have : zKL.length = 157 := by decide +kernel
                                                              omega)]
    rfl
theorem zLen_le (r : Int) : (zK r).2 ≤ 100000 := by
  have := zK_len r
  have hb : zKL.all (fun e => decide (e.2 ≤ 100000)) = true := by decide +kernel
  rcases zK_cases r with e | e
  · rw [e]
    exact Nat.zero_le _
  · exact of_decide_eq_true (List.all_eq_true.mp hb _ e)
section ZT
variable {l : Launch} {D : va_G} {κ : Nat → ClassId} {ρ : Nat → Nat} {A : Nat → Prop} {g : Int → Int} {d μ pc len : Nat} {a b : Int} {ls st : List zV} {S : zS} {r : zO} {i : Instr} {n cx : Nat} {h0 : zH}
/-- the counters behind the making of one object -/
theorem z_cnt {r : zO} {cells slots N : Nat} {R : Room} (hN : (zK (n + 1 : Nat)).2 = N) (hle : zLe (false, n + 1, cx, hz h0 (n + 1)) r.2) (hce : cells + (zCc r.2 - zCc (false, n, cx, h0)) ≤ R.cells) (hsl : slots + (zSl r.2 - zSl (false, n, cx, h0)) ≤ R.slots) :
    cells + 1 ≤ R.cells ∧ slots + N ≤ R.slots ∧ cells + 1 + (zCc r.2 - zCc (false, n + 1, cx, hz h0 (n + 1))) ≤ R.cells ∧ slots + N + (zSl r.2 - zSl (false, n + 1, cx, hz h0 (n + 1))) ≤ R.slots := by
  have c1 := zLe_cc hle
  have c3 := zLe_sl hle
  have e1 : zCc (false, n + 1, cx, hz h0 (n + 1)) = zCc (false, n, cx, h0) + 1 := by unfold zCc; dsimp only; omega
  have e2 : zSl (false, n + 1, cx, hz h0 (n + 1)) = zSl (false, n, cx, h0) + N := by
    unfold zSl
    dsimp only
    show zSum n + (zK (n + 1 : Nat)).2 + 6 * cx = _
    rw [hN]
    omega
  omega
theorem zp25 (hd : decode (zB μ) pc = .ok (i, len)) (hf : zFo (zMof μ).1 μ pc len 25 a b i = true) (hk : (zK ((n : Int) + 1)).1 = a.toNat) (h : zSnd l D κ ρ A g d μ (pc + len) ls ((2, (n : Int) + 1) :: st) (false, n + 1, cx, hz h0 (n + 1)) r) : zSnd l D κ ρ A g d μ pc ls st (false, n, cx, h0) r := by
  refine ⟨⟨Nat.le_trans (Nat.le_succ n) h.1.1, h.1.2⟩, fun p e R s m args below meth c C σ0 n0 σ H locs cells slots lsC hn0 hσ hP hD hS hI hl hst hce hsl => ?_⟩
  obtain ⟨⟨hlt, hx, hb, hml, hown, hts⟩, ⟨hr, hlk, hnm, htb⟩, hK, hKn, hA, hfr, hlo⟩ := id C
  have hf' := hf
  simp only [zFo, Bool.and_eq_true, beq_iff_eq, zIe_eq] at hf'
  obtain ⟨⟨e1, e2⟩, e3⟩ := hf'
  subst e1; subst e2
  obtain ⟨hw, hc⟩ := zEs_in (e := (25, (zMof μ).1, b.toNat, a.toNat)) (by simpa using e3)
  have hc : a.toNat < 11 := hc rfl
  obtain ⟨-, hN⟩ := zKN hk (by omega)
  have h156 : n + 1 ≤ 156 := by
    have := zK_bound (r := (n : Int) + 1) (by rw [hk]; omega)
    omega
  have hN' : (zK (n + 1 : Nat)).2 = (zT3 a.toNat).2.2 := hN
  obtain ⟨q1, q2, q3, q4⟩ := z_cnt hN' h.1 hce hsl
  have hdef : ∀ j, j < (zT3 a.toNat).2.2 → defaultValue (zTf a.toNat j) = vp_V ((List.range (zT3 a.toNat).2.2).map (fun (k : Nat) => zFv σ (zTy a.toNat k) 0)) j := by
    intro j hj
    unfold vp_V
    rw [List.getD_eq_getElem?_getD, List.getElem?_map, List.getElem?_range hj]
    show _ = zFv σ (zTy a.toNat j) 0
    obtain ⟨-, -, -, hty, -⟩ := zcf hc hj
    unfold zFv
    rcases hty with ⟨t1, t2⟩ | ⟨t1, t2⟩ | ⟨t1, t2⟩
    · rw [if_neg (by omega), t2]; rfl
    · rw [if_neg (by omega), t2]; rfl
    · rw [if_pos t1]
      cases htf : zTf a.toNat j <;> rw [htf] at t2 <;> first | rfl | cases t2
  refine va_new (C := (zT3 a.toNat).1) (T := (zT3 a.toNat).2.1) (N := (zT3 a.toNat).2.2) (ci := a.toNat) hx hb hts (zGd_lay hc) (zTf a.toNat) (fun k hk => (zcf hc hk).2.1) hown (hts _ (zGd_in hw rfl)) (hts _ (zwn hc).1) (hts _ (zwn hc).2) hK hP hD hS hA (zcl_at _ hc) hdef q1 q2 hd ?_
  intro q H1 hP1 hD1 hS1
  have hws : zWs κ (zNs σ n q) (n + 1) (hz h0 (n + 1)) = zWs κ σ n h0 ++ [(q, .inr (a.toNat, (List.range (zT3 a.toNat).2.2).map (fun (k : Nat) => zFv σ (zTy a.toNat k) 0)))] := by
    rw [zWs_new (m := 1) hI.1 zNs_old (fun o' _ h2 k => hz_old h2 k)]
    congr 1
    show [(zNs σ n q (n + 1 + 0), zEn κ (zNs σ n q) (hz h0 (n + 1)) (n + 1 + 0))] = _
    rw [Nat.add_zero, zNs_new]
    have he : zEn κ (zNs σ n q) (hz h0 (n + 1)) (n + 1) = .inr (a.toNat, (List.range (zT3 a.toNat).2.2).map (fun (k : Nat) => zFv σ (zTy a.toNat k) 0)) := by
      have := zEn_obj (κ := κ) (σ := zNs σ n q) (h := hz h0 (n + 1)) (o := (n : Int) + 1) (by omega) hk (by omega)
      rw [show ((n : Int) + 1).toNat = n + 1 by omega, hN] at this
      rw [this]
      congr 2
      apply List.map_congr_left
      intro k _
      have e0 : hz h0 ((n : Int) + 1) ((n : Int) + 1) (k : Int) = 0 := by unfold hz; rw [if_pos rfl]
      rw [e0]
      unfold zFv zOpt
      rfl
    rw [he]
  rw [← hws] at hP1 hD1
  have kk := h.2 p e R s m args below meth c C σ0 n0 (zNs σ n q) H1 locs (cells + 1) (slots + (zT3 a.toNat).2.2) lsC (Nat.le_trans hn0 (Nat.le_succ n)) (fun j hj => (zNs_old j (Nat.le_trans hj hn0)).trans (hσ j hj)) hP1 hD1 hS1 (zInv_new hI h156) (zLs_ext zNs_old (Nat.le_succ n) hl) (z_cons (v := (2, (n : Int) + 1)) (show 1 ≤ (n : Int) + 1 ∧ (n : Int) + 1 ≤ ((n + 1 : Nat) : Int) by omega) (fun v hv => zOk_mono (Nat.le_succ n) (hst v hv))) q3 q4
  rw [List.map_cons, z_map_ext zNs_old hst] at kk
  have e5 : zc (zNs σ n q) ρ (2, (n : Int) + 1) = .ref q := by
    show Value.ref (zNs σ n q ((n : Int) + 1).toNat) = _
    rw [show ((n : Int) + 1).toNat = n + 1 by omega, zNs_new]
  rw [e5] at kk
  exact kk
end ZT
