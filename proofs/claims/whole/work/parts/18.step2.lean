section ZT
variable {l : Launch} {D : va_G} {κ : Nat → ClassId} {ρ : Nat → Nat} {A : Nat → Prop} {g : Int → Int} {d μ pc len : Nat} {a b : Int} {ls st : List zV} {S : zS} {r : zO} {i : Instr}
/-- a final field is written by its own constructor alone -/
def zPfC (μ : Nat) (e : Nat × zI) : Bool := !(e.2.1 == 20) || !((zT3 e.2.2.1.toNat).2.1 e.2.2.2.1.toNat).2.2.2 || (decide ((zY μ).name = "<init>") && decide ((zT3 e.2.2.1.toNat).1 = zOwnL.getD (zMof μ).1 ""))
set_option maxRecDepth 100000 in
theorem zPf_0 : (List.range' 0 15).all (fun μ => (zCL μ).all (zPfC μ)) = true := by decide +kernel
set_option maxRecDepth 100000 in
theorem zPf_15 : (List.range' 15 15).all (fun μ => (zCL μ).all (zPfC μ)) = true := by decide +kernel
set_option maxRecDepth 100000 in
theorem zPf_30 : (List.range' 30 15).all (fun μ => (zCL μ).all (zPfC μ)) = true := by decide +kernel
set_option maxRecDepth 100000 in
theorem zPf_45 : (List.range' 45 15).all (fun μ => (zCL μ).all (zPfC μ)) = true := by decide +kernel
set_option maxRecDepth 100000 in
theorem zPf_60 : (List.range' 60 15).all (fun μ => (zCL μ).all (zPfC μ)) = true := by decide +kernel
set_option maxRecDepth 100000 in
theorem zPf_75 : (List.range' 75 15).all (fun μ => (zCL μ).all (zPfC μ)) = true := by decide +kernel
set_option maxRecDepth 100000 in
theorem zPf_90 : (List.range' 90 15).all (fun μ => (zCL μ).all (zPfC μ)) = true := by decide +kernel
set_option maxRecDepth 100000 in
theorem zPf_105 : (List.range' 105 15).all (fun μ => (zCL μ).all (zPfC μ)) = true := by decide +kernel
set_option maxRecDepth 100000 in
theorem zPf_120 : (List.range' 120 15).all (fun μ => (zCL μ).all (zPfC μ)) = true := by decide +kernel
set_option maxRecDepth 100000 in
theorem zPf_135 : (List.range' 135 15).all (fun μ => (zCL μ).all (zPfC μ)) = true := by decide +kernel
set_option maxRecDepth 100000 in
theorem zPf_150 : (List.range' 150 15).all (fun μ => (zCL μ).all (zPfC μ)) = true := by decide +kernel
set_option maxRecDepth 100000 in
theorem zPf_165 : (List.range' 165 15).all (fun μ => (zCL μ).all (zPfC μ)) = true := by decide +kernel
set_option maxRecDepth 100000 in
theorem zPf_180 : (List.range' 180 15).all (fun μ => (zCL μ).all (zPfC μ)) = true := by decide +kernel
set_option maxRecDepth 100000 in
theorem zPf_195 : (List.range' 195 15).all (fun μ => (zCL μ).all (zPfC μ)) = true := by decide +kernel
set_option maxRecDepth 100000 in
theorem zPf_210 : (List.range' 210 15).all (fun μ => (zCL μ).all (zPfC μ)) = true := by decide +kernel
set_option maxRecDepth 100000 in
theorem zPf_225 : (List.range' 225 15).all (fun μ => (zCL μ).all (zPfC μ)) = true := by decide +kernel
set_option maxRecDepth 100000 in
theorem zPf_240 : (List.range' 240 15).all (fun μ => (zCL μ).all (zPfC μ)) = true := by decide +kernel
set_option maxRecDepth 100000 in
theorem zPf_255 : (List.range' 255 15).all (fun μ => (zCL μ).all (zPfC μ)) = true := by decide +kernel
set_option maxRecDepth 100000 in
theorem zPf_270 : (List.range' 270 15).all (fun μ => (zCL μ).all (zPfC μ)) = true := by decide +kernel
set_option maxRecDepth 100000 in
theorem zPf_285 : (List.range' 285 15).all (fun μ => (zCL μ).all (zPfC μ)) = true := by decide +kernel
set_option maxRecDepth 100000 in
theorem zPf_300 : (List.range' 300 15).all (fun μ => (zCL μ).all (zPfC μ)) = true := by decide +kernel
set_option maxRecDepth 100000 in
theorem zPf_315 : (List.range' 315 15).all (fun μ => (zCL μ).all (zPfC μ)) = true := by decide +kernel
set_option maxRecDepth 100000 in
theorem zPf_330 : (List.range' 330 5).all (fun μ => (zCL μ).all (zPfC μ)) = true := by decide +kernel
theorem zPf_all (μ : Nat) (h1 : μ < 335) : (zCL μ).all (zPfC μ) = true := by
  rcases Nat.lt_or_ge μ 15 with h | h
  · exact List.all_eq_true.mp zPf_0 μ (List.mem_range'_1.mpr ⟨by omega, by omega⟩)
  rcases Nat.lt_or_ge μ 30 with h | h
  · exact List.all_eq_true.mp zPf_15 μ (List.mem_range'_1.mpr ⟨by omega, by omega⟩)
  rcases Nat.lt_or_ge μ 45 with h | h
  · exact List.all_eq_true.mp zPf_30 μ (List.mem_range'_1.mpr ⟨by omega, by omega⟩)
  rcases Nat.lt_or_ge μ 60 with h | h
  · exact List.all_eq_true.mp zPf_45 μ (List.mem_range'_1.mpr ⟨by omega, by omega⟩)
  rcases Nat.lt_or_ge μ 75 with h | h
  · exact List.all_eq_true.mp zPf_60 μ (List.mem_range'_1.mpr ⟨by omega, by omega⟩)
  rcases Nat.lt_or_ge μ 90 with h | h
  · exact List.all_eq_true.mp zPf_75 μ (List.mem_range'_1.mpr ⟨by omega, by omega⟩)
  rcases Nat.lt_or_ge μ 105 with h | h
  · exact List.all_eq_true.mp zPf_90 μ (List.mem_range'_1.mpr ⟨by omega, by omega⟩)
  rcases Nat.lt_or_ge μ 120 with h | h
  · exact List.all_eq_true.mp zPf_105 μ (List.mem_range'_1.mpr ⟨by omega, by omega⟩)
  rcases Nat.lt_or_ge μ 135 with h | h
  · exact List.all_eq_true.mp zPf_120 μ (List.mem_range'_1.mpr ⟨by omega, by omega⟩)
  rcases Nat.lt_or_ge μ 150 with h | h
  · exact List.all_eq_true.mp zPf_135 μ (List.mem_range'_1.mpr ⟨by omega, by omega⟩)
  rcases Nat.lt_or_ge μ 165 with h | h
  · exact List.all_eq_true.mp zPf_150 μ (List.mem_range'_1.mpr ⟨by omega, by omega⟩)
  rcases Nat.lt_or_ge μ 180 with h | h
  · exact List.all_eq_true.mp zPf_165 μ (List.mem_range'_1.mpr ⟨by omega, by omega⟩)
  rcases Nat.lt_or_ge μ 195 with h | h
  · exact List.all_eq_true.mp zPf_180 μ (List.mem_range'_1.mpr ⟨by omega, by omega⟩)
  rcases Nat.lt_or_ge μ 210 with h | h
  · exact List.all_eq_true.mp zPf_195 μ (List.mem_range'_1.mpr ⟨by omega, by omega⟩)
  rcases Nat.lt_or_ge μ 225 with h | h
  · exact List.all_eq_true.mp zPf_210 μ (List.mem_range'_1.mpr ⟨by omega, by omega⟩)
  rcases Nat.lt_or_ge μ 240 with h | h
  · exact List.all_eq_true.mp zPf_225 μ (List.mem_range'_1.mpr ⟨by omega, by omega⟩)
  rcases Nat.lt_or_ge μ 255 with h | h
  · exact List.all_eq_true.mp zPf_240 μ (List.mem_range'_1.mpr ⟨by omega, by omega⟩)
  rcases Nat.lt_or_ge μ 270 with h | h
  · exact List.all_eq_true.mp zPf_255 μ (List.mem_range'_1.mpr ⟨by omega, by omega⟩)
  rcases Nat.lt_or_ge μ 285 with h | h
  · exact List.all_eq_true.mp zPf_270 μ (List.mem_range'_1.mpr ⟨by omega, by omega⟩)
  rcases Nat.lt_or_ge μ 300 with h | h
  · exact List.all_eq_true.mp zPf_285 μ (List.mem_range'_1.mpr ⟨by omega, by omega⟩)
  rcases Nat.lt_or_ge μ 315 with h | h
  · exact List.all_eq_true.mp zPf_300 μ (List.mem_range'_1.mpr ⟨by omega, by omega⟩)
  rcases Nat.lt_or_ge μ 330 with h | h
  · exact List.all_eq_true.mp zPf_315 μ (List.mem_range'_1.mpr ⟨by omega, by omega⟩)
  rcases Nat.lt_or_ge μ 335 with h | h
  · exact List.all_eq_true.mp zPf_330 μ (List.mem_range'_1.mpr ⟨by omega, by omega⟩)
  omega
theorem zPf (hμ : μ < 335) (hc : zC μ pc = some (20, a, b, len)) : ((zT3 a.toNat).2.1 b.toNat).2.2.2 = true → (zY μ).name = "<init>" ∧ (zT3 a.toNat).1 = zOwnL.getD (zMof μ).1 "" := by
  intro hfin
  have hm := z_lookup (show (zCL μ).lookup pc = some (20, a, b, len) from hc)
  have hk := List.all_eq_true.mp (zPf_all μ hμ) _ hm
  unfold zPfC at hk
  dsimp only at hk
  rw [hfin] at hk
  simpa using hk
theorem zRg_set' {n : Nat} {h : zH} {o k : Int} {v : Int} (hr : zRg n h) (hk : 0 ≤ k) (hv : zFits n (zK o).1 k.toNat v) : zRg n (hw h o k v) := by
  have e : ((k.toNat : Nat) : Int) = k := by omega
  have := zRg_set (k := k.toNat) hr hv
  rw [e] at this
  exact this
theorem hw_0 {h : zH} {o k v : Int} (ho : 1 ≤ o) : hw h o k v 0 = h 0 := by
  funext k'
  unfold hw
  rw [if_neg (by omega)]
theorem zLay_arr {n : Nat} {h : zH} {o k v : Int} (hl : zLay n h) (h50 : 50 ≤ (zK o).1) (h53 : (zK o).1 ≤ 53) : zLay n (hw h o k v) := by
  intro o' h1 h2
  obtain ⟨q1, q2⟩ := hl o' h1 h2
  by_cases e : (o' : Int) = o
  · rw [e]
    refine ⟨fun z => by omega, fun z => by omega⟩
  · have e2 : hw h o k v (o' : Int) = h (o' : Int) := by
      funext k'
      unfold hw
      rw [if_neg (fun z => e z.1)]
    rw [e2]
    exact ⟨q1, q2⟩
theorem zp20 (hd : decode (zB μ) pc = .ok (i, len)) (hf : zFo (zMof μ).1 μ pc len 20 a b i = true) (hμ : μ < 335) (hzc : zC μ pc = some (20, a, b, len)) {v : zV} {o : Int} (hi : zIs o a.toNat) (hvt : v.1 = if zTy a.toNat b.toNat = 2 then 2 else 0) (hz : zTy a.toNat b.toNat = 1 → v.2 = 0 ∨ v.2 = 1) (hcs : S.1 = true → zCs a.toNat b.toNat = 0) (h : zSnd l D κ ρ A g d μ (pc + len) ls st (zSet S (hw S.2.2.2 o b v.2)) r) : zSnd l D κ ρ A g d μ pc ls (v :: (2, o) :: st) S r := by
  refine ⟨h.1, fun p e R s m args below meth c C σ0 n0 σ H locs cells slots lsC hn0 hσ hP hD hS hI hl hst hce hsl => ?_⟩
  obtain ⟨⟨hlt, hx, hb, hml, hown, hts⟩, ⟨hr, hlk, hnm, htb⟩, hK, hKn, hA, hfr, hlo⟩ := id C
  obtain ⟨hv, hst⟩ := List.forall_mem_cons.mp hst
  obtain ⟨ho, hst⟩ := List.forall_mem_cons.mp hst
  have ho : 1 ≤ o ∧ o ≤ S.2.1 := ho
  have hf' := hf
  simp only [zFo, Bool.and_eq_true, beq_iff_eq, decide_eq_true_eq] at hf'
  obtain ⟨⟨-, hb0⟩, hf'⟩ := hf'
  have hc : a.toNat < 11 ∧ b.toNat < (zT3 a.toNat).2.2 := by
    split at hf'
    · rename_i x
      exact (zFs_in (e := ((zMof μ).1, x, a.toNat, b.toNat)) (by simpa using hf')).2
    · cases hf'
  have hbb : ((b.toNat : Nat) : Int) = b := by omega
  have hi' : (zK o).1 = a.toNat := hi
  have hv2 : zTy a.toNat b.toNat = 2 → 1 ≤ v.2 ∧ v.2 ≤ S.2.1 := by
    intro q
    rw [if_pos q] at hvt
    unfold zOk at hv
    rw [hvt] at hv
    exact hv
  have hv1 : zTy a.toNat b.toNat ≠ 2 → zr32 v.2 := by
    intro q
    rw [if_neg q] at hvt
    unfold zOk at hv
    rw [hvt] at hv
    exact hv
  have hI1 : zInv g (zSet S (hw S.2.2.2 o b v.2)) := by
    refine ⟨zRg_set' hI.1 hb0 ?_, fun hS1 => ?_, ?_, hI.2.2.2⟩
    · rw [hi']
      unfold zFits
      rw [if_pos (by omega)]
      split
      · rename_i q
        have := hv2 q
        exact ⟨by omega, this.2⟩
      · rename_i q
        exact hv1 q
    · have hl0 := hI.2.1 hS1
      intro o' q1 q2
      obtain ⟨l1, l2⟩ := hl0 o' q1 q2
      by_cases eo : (o' : Int) = o
      · rw [eo] at l1 l2 ⊢
        refine ⟨fun z k => ?_, fun z => by omega⟩
        obtain ⟨m1, m2⟩ := l1 z k
        by_cases ek : k = b.toNat
        · subst ek
          rw [hi']
          refine ⟨fun z => absurd (hcs hS1) z, fun z => ?_⟩
          show hw S.2.2.2 o b v.2 o (b.toNat : Int) ≠ 0
          unfold hw
          rw [if_pos ⟨rfl, hbb⟩]
          have := hv2 z
          omega
        · have e3 : hw S.2.2.2 o b v.2 o (k : Int) = S.2.2.2 o k := by
            unfold hw
            rw [if_neg (by omega)]
          show (_ → hw S.2.2.2 o b v.2 o (k : Int) = _) ∧ (_ → hw S.2.2.2 o b v.2 o (k : Int) ≠ 0)
          rw [e3]
          exact ⟨m1, m2⟩
      · have e2 : hw S.2.2.2 o b v.2 (o' : Int) = S.2.2.2 (o' : Int) := by
          funext k'
          unfold hw
          rw [if_neg (fun z => eo z.1)]
        show (_ → ∀ k, (_ → hw S.2.2.2 o b v.2 (o' : Int) _ = _) ∧ (_ → hw S.2.2.2 o b v.2 (o' : Int) _ ≠ 0)) ∧ (_ → ∀ i : Nat, _ → hw S.2.2.2 o b v.2 (o' : Int) i = _)
        rw [e2]
        exact ⟨l1, l2⟩
    · show hw S.2.2.2 o b v.2 0 = g
      rw [hw_0 ho.1]
      exact hI.2.2.1
  refine zs20 hx hb hown hts hd hf (fun q => ?_) hK hP hD hS ho.1 ho.2 hi hvt (fun q => ?_) hz (fun H1 locs1 hP1 hD1 hS1 => h.2 p e R s m args below meth c C σ0 n0 σ H1 locs1 cells slots lsC hn0 hσ hP1 hD1 hS1 hI1 hl hst hce hsl)
  · have := zPf hμ hzc q
    exact ⟨hnm.trans this.1, this.2⟩
  · by_cases q2 : zTy a.toNat b.toNat = 2
    · have := hv2 q2
      omega
    · rw [if_neg q2] at hvt
      omega
theorem zK_len (o : Int) : zr32 ((zK o).2 : Int) := by
  have hb : zKL.all (fun e => decide (e.2 ≤ 100000)) = true := by decide +kernel
  rcases zK_cases o with e | e
  · rw [e]
    unfold zr32
    dsimp only
    omega
  · have := of_decide_eq_true (List.all_eq_true.mp hb _ e)
    unfold zr32
    omega
theorem zMK_rng {k : Nat} (h : k < 12) : zr32 (zMK.getD k 0) := by
  have : k = 0 ∨ k = 1 ∨ k = 2 ∨ k = 3 ∨ k = 4 ∨ k = 5 ∨ k = 6 ∨ k = 7 ∨ k = 8 ∨ k = 9 ∨ k = 10 ∨ k = 11 := by omega
  rcases this with rfl | rfl | rfl | rfl | rfl | rfl | rfl | rfl | rfl | rfl | rfl | rfl <;> (show zr32 _; unfold zr32 zMK; decide)
theorem zp21 (hd : decode (zB μ) pc = .ok (i, len)) (hf : zFo (zMof μ).1 μ pc len 21 a b i = true) {o : Int} (h50 : 50 ≤ (zK o).1) (h55 : (zK o).1 ≤ 55) (h : zSnd l D κ ρ A g d μ (pc + len) ls ((0, ((zK o).2 : Int)) :: st) S r) : zSnd l D κ ρ A g d μ pc ls ((2, o) :: st) S r := by
  refine ⟨h.1, fun p e R s m args below meth c C σ0 n0 σ H locs cells slots lsC hn0 hσ hP hD hS hI hl hst hce hsl => ?_⟩
  obtain ⟨⟨hlt, hx, hb, hml, hown, hts⟩, ⟨hr, hlk, hnm, htb⟩, hK, hKn, hA, hfr, hlo⟩ := id C
  obtain ⟨h1, hst⟩ := List.forall_mem_cons.mp hst
  have h1 : 1 ≤ o ∧ o ≤ S.2.1 := h1
  exact zs21 hx hb hd hf hK hP h1.1 h1.2 h50 h55 (h.2 p e R s m args below meth c C σ0 n0 σ H locs cells slots lsC hn0 hσ hP hD hS hI hl (z_cons (zK_len o) hst) hce hsl)
theorem zp21a (hd : decode (zB μ) pc = .ok (i, len)) (hf : zFo (zMof μ).1 μ pc len 21 a b i = true)  (h : zSnd l D κ ρ A g d μ (pc + len) ls ((0, S.2.2.2 0 (-1)) :: st) S r) : zSnd l D κ ρ A g d μ pc ls ((4, 0) :: st) S r := by
  refine ⟨h.1, fun p e R s m args below meth c C σ0 n0 σ H locs cells slots lsC hn0 hσ hP hD hS hI hl hst hce hsl => ?_⟩
  obtain ⟨⟨hlt, hx, hb, hml, hown, hts⟩, ⟨hr, hlk, hnm, htb⟩, hK, hKn, hA, hfr, hlo⟩ := id C
  obtain ⟨h1, hst⟩ := List.forall_mem_cons.mp hst
  obtain ⟨⟨⟨N, k1, k2, k3, k4⟩, -, -⟩, -⟩ := hKn
  rw [hI.2.2.1, k2] at h
  have kk := h.2 p e R s m args below meth c C σ0 n0 σ H locs cells slots lsC hn0 hσ hP hD hS hI hl (z_cons (show zr32 (N : Int) by unfold zr32; omega) hst) hce hsl
  simp only [zFo, Bool.and_eq_true, beq_iff_eq, zIe_eq] at hf
  obtain ⟨e1, e2⟩ := hf
  subst e1; subst e2
  exact va_tlen hx hb k3 hS (Int32.ofInt_eq_ofNat (n := N)).symm hd kk
theorem zp21b (hd : decode (zB μ) pc = .ok (i, len)) (hf : zFo (zMof μ).1 μ pc len 21 a b i = true)  (h : zSnd l D κ ρ A g d μ (pc + len) ls ((0, 12) :: st) S r) : zSnd l D κ ρ A g d μ pc ls ((4, 1) :: st) S r := by
  refine ⟨h.1, fun p e R s m args below meth c C σ0 n0 σ H locs cells slots lsC hn0 hσ hP hD hS hI hl hst hce hsl => ?_⟩
  obtain ⟨⟨hlt, hx, hb, hml, hown, hts⟩, ⟨hr, hlk, hnm, htb⟩, hK, hKn, hA, hfr, hlo⟩ := id C
  obtain ⟨h1, hst⟩ := List.forall_mem_cons.mp hst
  obtain ⟨⟨-, -, k3⟩, -⟩ := hKn
  have kk := h.2 p e R s m args below meth c C σ0 n0 σ H locs cells slots lsC hn0 hσ hP hD hS hI hl (z_cons (show zr32 12 by unfold zr32; omega) hst) hce hsl
  simp only [zFo, Bool.and_eq_true, beq_iff_eq, zIe_eq] at hf
  obtain ⟨e1, e2⟩ := hf
  subst e1; subst e2
  exact va_tlen hx hb k3 hS (Int32.ofInt_eq_ofNat (n := 12)).symm hd kk
theorem zp22 (hd : decode (zB μ) pc = .ok (i, len)) (hf : zFo (zMof μ).1 μ pc len 22 a b i = true) {o j : Int} (hi : zIs o a.toNat ∨ a = 51 ∧ zIs o 52) (hj0 : 0 ≤ j) (hj1 : j < (zK o).2) (h : zSnd l D κ ρ A g d μ (pc + len) ls (((if a = 53 then 1 else 0), S.2.2.2 o j) :: st) S r) : zSnd l D κ ρ A g d μ pc ls ((0, j) :: (2, o) :: st) S r := by
  refine ⟨h.1, fun p e R s m args below meth c C σ0 n0 σ H locs cells slots lsC hn0 hσ hP hD hS hI hl hst hce hsl => ?_⟩
  obtain ⟨⟨hlt, hx, hb, hml, hown, hts⟩, ⟨hr, hlk, hnm, htb⟩, hK, hKn, hA, hfr, hlo⟩ := id C
  obtain ⟨h2, hst⟩ := List.forall_mem_cons.mp hst
  obtain ⟨h1, hst⟩ := List.forall_mem_cons.mp hst
  have h1 : 1 ≤ o ∧ o ≤ S.2.1 := h1
  have hoo : ((o.toNat : Nat) : Int) = o := by omega
  have hjj : ((j.toNat : Nat) : Int) = j := by omega
  have hfit := hI.1 o.toNat (by omega) (by omega) j.toNat
  rw [hoo, hjj] at hfit
  have ha : a = 50 ∨ a = 51 ∨ a = 53 := by
    simp only [zFo, Bool.and_eq_true, Bool.or_eq_true, beq_iff_eq, zIe_eq] at hf
    rcases hf.2 with (q | q) | q
    · exact Or.inl q.2
    · exact Or.inr (Or.inl q.2)
    · exact Or.inr (Or.inr q.2)
  have hok : zOk S.2.1 ((if a = 53 then 1 else 0), S.2.2.2 o j) := by
    unfold zIs at hi
    unfold zFits at hfit
    rcases ha with rfl | rfl | rfl
    · have hi : (zK o).1 = 50 := by rcases hi with q | q; exact q; exact absurd q.1 (by decide)
      rw [hi] at hfit
      exact hfit
    · have hi : (zK o).1 = 51 ∨ (zK o).1 = 52 := by rcases hi with q | q; exact Or.inl q; exact Or.inr q.2
      rcases hi with q | q <;> rw [q] at hfit <;> exact hfit
    · have hi : (zK o).1 = 53 := by rcases hi with q | q; exact q; exact absurd q.1 (by decide)
      rw [hi] at hfit
      exact hfit
  exact zs22 hx hb hd hf hK hP h1.1 h1.2 hi h2 hj0 hj1 (h.2 p e R s m args below meth c C σ0 n0 σ H locs cells slots lsC hn0 hσ hP hD hS hI hl (z_cons hok hst) hce hsl)
theorem zp22a (hd : decode (zB μ) pc = .ok (i, len)) (hf : zFo (zMof μ).1 μ pc len 22 a b i = true) {j : Int} (ha : a = 50) (hj0 : 0 ≤ j) (hj1 : j < S.2.2.2 0 (-1)) (h : zSnd l D κ ρ A g d μ (pc + len) ls ((0, S.2.2.2 0 j) :: st) S r) : zSnd l D κ ρ A g d μ pc ls ((0, j) :: (4, 0) :: st) S r := by
  refine ⟨h.1, fun p e R s m args below meth c C σ0 n0 σ H locs cells slots lsC hn0 hσ hP hD hS hI hl hst hce hsl => ?_⟩
  obtain ⟨⟨hlt, hx, hb, hml, hown, hts⟩, ⟨hr, hlk, hnm, htb⟩, hK, hKn, hA, hfr, hlo⟩ := id C
  obtain ⟨h2, hst⟩ := List.forall_mem_cons.mp hst
  obtain ⟨h1, hst⟩ := List.forall_mem_cons.mp hst
  obtain ⟨⟨⟨N, k1, k2, k3, k4⟩, -, -⟩, -⟩ := hKn
  rw [hI.2.2.1, k2] at hj1
  rw [hI.2.2.1] at h
  have hjj : ((j.toNat : Nat) : Int) = j := by omega
  have hr0 := k4 j.toNat (by omega)
  rw [hjj] at hr0
  have kk := h.2 p e R s m args below meth c C σ0 n0 σ H locs cells slots lsC hn0 hσ hP hD hS hI hl (z_cons (v := (0, g j)) hr0 hst) hce hsl
  subst ha
  simp only [zFo, Bool.and_eq_true, Bool.or_eq_true, beq_iff_eq, zIe_eq] at hf
  obtain ⟨e2, hf⟩ := hf
  subst e2
  have e1 : i = .iaload := by
    rcases hf with (q | q) | q
    · exact q.1
    · exact absurd q.2 (by decide)
    · exact absurd q.2 (by decide)
  subst e1
  refine va_ti hx hb k3 hS (zvp h2 hj0 hj1) ?_ hd kk
  rw [zclamp h2, hjj]
  rfl
theorem zp22b (hd : decode (zB μ) pc = .ok (i, len)) (hf : zFo (zMof μ).1 μ pc len 22 a b i = true) {j : Int} (ha : a = 50) (hj0 : 0 ≤ j) (hj1 : j < 12) (h : zSnd l D κ ρ A g d μ (pc + len) ls ((0, zMK.getD j.toNat 0) :: st) S r) : zSnd l D κ ρ A g d μ pc ls ((0, j) :: (4, 1) :: st) S r := by
  refine ⟨h.1, fun p e R s m args below meth c C σ0 n0 σ H locs cells slots lsC hn0 hσ hP hD hS hI hl hst hce hsl => ?_⟩
  obtain ⟨⟨hlt, hx, hb, hml, hown, hts⟩, ⟨hr, hlk, hnm, htb⟩, hK, hKn, hA, hfr, hlo⟩ := id C
  obtain ⟨h2, hst⟩ := List.forall_mem_cons.mp hst
  obtain ⟨h1, hst⟩ := List.forall_mem_cons.mp hst
  obtain ⟨⟨-, -, k3⟩, -⟩ := hKn
  have hr0 : zr32 (zMK.getD j.toNat 0) := zMK_rng (by omega)
  have kk := h.2 p e R s m args below meth c C σ0 n0 σ H locs cells slots lsC hn0 hσ hP hD hS hI hl (z_cons (v := (0, zMK.getD j.toNat 0)) hr0 hst) hce hsl
  subst ha
  simp only [zFo, Bool.and_eq_true, Bool.or_eq_true, beq_iff_eq, zIe_eq] at hf
  obtain ⟨e2, hf⟩ := hf
  subst e2
  have e1 : i = .iaload := by
    rcases hf with (q | q) | q
    · exact q.1
    · exact absurd q.2 (by decide)
    · exact absurd q.2 (by decide)
  subst e1
  refine va_ti hx hb k3 hS (zvp h2 hj0 hj1) ?_ hd kk
  rw [zclamp h2]
  rfl
theorem zp23 (hd : decode (zB μ) pc = .ok (i, len)) (hf : zFo (zMof μ).1 μ pc len 23 a b i = true) {o j : Int} {v : zV} (hvt : v.1 = if a = 53 then 1 else 0) (hi : zIs o a.toNat ∨ a = 51 ∧ zIs o 52 ∧ (v.2 = 0 ∨ v.2 = 1)) (hby : zIs o 51 → -128 ≤ v.2 ∧ v.2 ≤ 127) (hj0 : 0 ≤ j) (hj1 : j < (zK o).2) (h : zSnd l D κ ρ A g d μ (pc + len) ls st (zSet S (hw S.2.2.2 o j v.2)) r) : zSnd l D κ ρ A g d μ pc ls (v :: (0, j) :: (2, o) :: st) S r := by
  refine ⟨h.1, fun p e R s m args below meth c C σ0 n0 σ H locs cells slots lsC hn0 hσ hP hD hS hI hl hst hce hsl => ?_⟩
  obtain ⟨⟨hlt, hx, hb, hml, hown, hts⟩, ⟨hr, hlk, hnm, htb⟩, hK, hKn, hA, hfr, hlo⟩ := id C
  obtain ⟨hv, hst⟩ := List.forall_mem_cons.mp hst
  obtain ⟨hj, hst⟩ := List.forall_mem_cons.mp hst
  obtain ⟨ho, hst⟩ := List.forall_mem_cons.mp hst
  have ho : 1 ≤ o ∧ o ≤ S.2.1 := ho
  have ha : a = 50 ∨ a = 51 ∨ a = 53 := by
    simp only [zFo, Bool.and_eq_true, Bool.or_eq_true, beq_iff_eq, zIe_eq] at hf
    rcases hf.2 with (q | q) | q
    · exact Or.inl q.2
    · exact Or.inr (Or.inl q.2)
    · exact Or.inr (Or.inr q.2)
  have hkind : (50 ≤ (zK o).1 ∧ (zK o).1 ≤ 52 ∧ v.1 = 0) ∨ ((zK o).1 = 53 ∧ v.1 = 1) := by
    unfold zIs at hi
    rcases ha with rfl | rfl | rfl
    · have hi : (zK o).1 = 50 := by rcases hi with q | q; exact q; exact absurd q.1 (by decide)
      exact Or.inl ⟨by omega, by omega, hvt⟩
    · have hi : (zK o).1 = 51 ∨ (zK o).1 = 52 := by rcases hi with q | q; exact Or.inl q; exact Or.inr q.2.1
      exact Or.inl ⟨by omega, by omega, hvt⟩
    · have hi : (zK o).1 = 53 := by rcases hi with q | q; exact q; exact absurd q.1 (by decide)
      exact Or.inr ⟨hi, hvt⟩
  have hI1 : zInv g (zSet S (hw S.2.2.2 o j v.2)) := by
    refine ⟨zRg_set' hI.1 hj0 ?_, fun hS1 => zLay_arr (hI.2.1 hS1) (by omega) (by omega), ?_, hI.2.2.2⟩
    · unfold zOk at hv
      unfold zFits
      rcases hkind with ⟨q1, q2, q3⟩ | ⟨q1, q3⟩
      · rw [if_neg (by omega), if_pos (by omega)]
        rw [q3] at hv
        exact hv
      · rw [if_neg (by omega), if_neg (by omega), if_pos q1]
        rw [q3] at hv
        exact hv
    · show hw S.2.2.2 o j v.2 0 = g
      rw [hw_0 ho.1]
      exact hI.2.2.1
  exact zs23 hx hb hd hf hK hP hD hS ho.1 ho.2 hvt hi hby hj hj0 hj1 (fun H1 locs1 hP1 hD1 hS1 => h.2 p e R s m args below meth c C σ0 n0 σ H1 locs1 cells slots lsC hn0 hσ hP1 hD1 hS1 hI1 hl hst hce hsl)
theorem zp24 (hd : decode (zB μ) pc = .ok (i, len)) (hf : zFo (zMof μ).1 μ pc len 24 a b i = true) {o j : Int} (hi : zIs o 54 ∨ zIs o 55) (hj0 : 0 ≤ j) (hj1 : j < (zK o).2) (hne : S.1 = false → S.2.2.2 o j ≠ 0) (h : zSnd l D κ ρ A g d μ (pc + len) ls ((2, if S.1 = true then o + 1 + zStr1 (zK o).1 * j else S.2.2.2 o j) :: st) S r) : zSnd l D κ ρ A g d μ pc ls ((0, j) :: (2, o) :: st) S r := by
  refine ⟨h.1, fun p e R s m args below meth c C σ0 n0 σ H locs cells slots lsC hn0 hσ hP hD hS hI hl hst hce hsl => ?_⟩
  obtain ⟨⟨hlt, hx, hb, hml, hown, hts⟩, ⟨hr, hlk, hnm, htb⟩, hK, hKn, hA, hfr, hlo⟩ := id C
  obtain ⟨h2, hst⟩ := List.forall_mem_cons.mp hst
  obtain ⟨h1, hst⟩ := List.forall_mem_cons.mp hst
  have h1 : 1 ≤ o ∧ o ≤ S.2.1 := h1
  have hoo : ((o.toNat : Nat) : Int) = o := by omega
  have hjj : ((j.toNat : Nat) : Int) = j := by omega
  have hi' : (zK o).1 = 54 ∨ (zK o).1 = 55 := hi
  have hfit := hI.1 o.toNat (by omega) (by omega) j.toNat
  rw [hoo, hjj] at hfit
  unfold zFits at hfit
  rw [if_neg (by omega), if_neg (by omega), if_neg (by omega)] at hfit
  have hval : (if S.1 = true then o + 1 + zStr1 (zK o).1 * j else S.2.2.2 o j) = S.2.2.2 o j := by
    split
    · rename_i hS1
      have := ((hI.2.1 hS1) o.toNat (by omega) (by omega)).2
      rw [hoo] at this
      have := this hi' j.toNat (by omega)
      rw [hjj] at this
      exact this.symm
    · rfl
  have hnz : S.2.2.2 o j ≠ 0 := by
    cases hS1 : S.1 with
    | false => exact hne hS1
    | true =>
      rw [hS1, if_pos rfl] at hval
      rw [← hval]
      unfold zStr1
      split <;> omega
  rw [hval] at h
  exact zs24 hx hb hd hf hK hP h1.1 h1.2 hi h2 hj0 hj1 hnz (h.2 p e R s m args below meth c C σ0 n0 σ H locs cells slots lsC hn0 hσ hP hD hS hI hl (z_cons (v := (2, S.2.2.2 o j)) (show 1 ≤ S.2.2.2 o j ∧ S.2.2.2 o j ≤ S.2.1 by omega) hst) hce hsl)
end ZT
