section ZT
variable {l : Launch} {D : va_G} {κ : Nat → ClassId} {ρ : Nat → Nat} {A : Nat → Prop} {g : Int → Int} {d μ pc len : Nat} {a b : Int} {ls st : List zV} {S : zS} {r : zO} {i : Instr}
theorem z_cons {n : Nat} {v : zV} {st : List zV} (hv : zOk n v) (h : ∀ w ∈ st, zOk n w) : ∀ w ∈ v :: st, zOk n w := List.forall_mem_cons.mpr ⟨hv, h⟩
theorem zp1 (hd : decode (zB μ) pc = .ok (i, len)) (hf : zFo (zMof μ).1 μ pc len 1 a b i = true)  (h : zSnd l D κ ρ A g d μ (pc + len) ls ((0, a) :: st) S r) : zSnd l D κ ρ A g d μ pc ls st S r := by
  refine ⟨h.1, fun p e R s m args below meth c C σ0 n0 σ H locs cells slots lsC hn0 hσ hP hD hS hI hl hst hce hsl => ?_⟩
  obtain ⟨⟨hlt, hx, hb, hml, hown, hts⟩, ⟨hr, hlk, hnm, htb⟩, hK, hKn, hA, hfr, hlo⟩ := id C
  have hra : zr32 a := by
    simp only [zFo, Bool.and_eq_true, decide_eq_true_eq] at hf
    exact ⟨hf.1.1, hf.1.2⟩
  exact zs1 hx hb hown hts hd hf (h.2 p e R s m args below meth c C σ0 n0 σ H locs cells slots lsC hn0 hσ hP hD hS hI hl (z_cons hra hst) hce hsl)
theorem zp2 (hd : decode (zB μ) pc = .ok (i, len)) (hf : zFo (zMof μ).1 μ pc len 2 a b i = true)  (h : zSnd l D κ ρ A g d μ (pc + len) ls ((1, a) :: st) S r) : zSnd l D κ ρ A g d μ pc ls st S r := by
  refine ⟨h.1, fun p e R s m args below meth c C σ0 n0 σ H locs cells slots lsC hn0 hσ hP hD hS hI hl hst hce hsl => ?_⟩
  obtain ⟨⟨hlt, hx, hb, hml, hown, hts⟩, ⟨hr, hlk, hnm, htb⟩, hK, hKn, hA, hfr, hlo⟩ := id C
  have hra : zr64 a := by
    simp only [zFo, Bool.and_eq_true, Bool.or_eq_true, beq_iff_eq, decide_eq_true_eq] at hf
    unfold zr64
    rcases hf with (q | q) | q
    · rw [q.1.2]; omega
    · rw [q.1.2]; omega
    · exact ⟨by have := q.1.1.2; omega, q.1.2⟩
  exact zs2 hx hb hown hts hd hf (h.2 p e R s m args below meth c C σ0 n0 σ H locs cells slots lsC hn0 hσ hP hD hS hI hl (z_cons hra hst) hce hsl)
theorem zp4 (hd : decode (zB μ) pc = .ok (i, len)) (hf : zFo (zMof μ).1 μ pc len 4 a b i = true) {v : zV} (hv : ls[a.toNat]? = some v) (ht : zTok b v) (h : zSnd l D κ ρ A g d μ (pc + len) ls (v :: st) S r) : zSnd l D κ ρ A g d μ pc ls st S r := by
  refine ⟨h.1, fun p e R s m args below meth c C σ0 n0 σ H locs cells slots lsC hn0 hσ hP hD hS hI hl hst hce hsl => ?_⟩
  obtain ⟨⟨hlt, hx, hb, hml, hown, hts⟩, ⟨hr, hlk, hnm, htb⟩, hK, hKn, hA, hfr, hlo⟩ := id C
  have h9 : v.1 ≠ 9 := by
    unfold zTok at ht
    split at ht <;> omega
  exact zs4 hx hb hd hf hl hv ht (h.2 p e R s m args below meth c C σ0 n0 σ H locs cells slots lsC hn0 hσ hP hD hS hI hl (z_cons (zLs_ok hl hv h9) hst) hce hsl)
theorem zp5 (hd : decode (zB μ) pc = .ok (i, len)) (hf : zFo (zMof μ).1 μ pc len 5 a b i = true) {v : zV} (ht : b = 0 ∧ v.1 = 0 ∨ b = 2 ∧ (v.1 = 2 ∨ v.1 = 4 ∨ v.1 = 5)) (hi : a.toNat < ls.length) (h : zSnd l D κ ρ A g d μ (pc + len) (zSt ls a.toNat v) st S r) : zSnd l D κ ρ A g d μ pc ls (v :: st) S r := by
  refine ⟨h.1, fun p e R s m args below meth c C σ0 n0 σ H locs cells slots lsC hn0 hσ hP hD hS hI hl hst hce hsl => ?_⟩
  obtain ⟨⟨hlt, hx, hb, hml, hown, hts⟩, ⟨hr, hlk, hnm, htb⟩, hK, hKn, hA, hfr, hlo⟩ := id C
  obtain ⟨hv, hst⟩ := List.forall_mem_cons.mp hst
  exact zs5 hx hb hd hf hl hv ht hi (fun ls' hl' => h.2 p e R s m args below meth c C σ0 n0 σ H locs cells slots ls' hn0 hσ hP hD hS hI hl' hst hce hsl)
theorem zp6 (hd : decode (zB μ) pc = .ok (i, len)) (hf : zFo (zMof μ).1 μ pc len 6 a b i = true) {x : Int} (hi : a.toNat + 1 < ls.length) (h : zSnd l D κ ρ A g d μ (pc + len) (zSt2 ls a.toNat (1, x)) st S r) : zSnd l D κ ρ A g d μ pc ls ((1, x) :: st) S r := by
  refine ⟨h.1, fun p e R s m args below meth c C σ0 n0 σ H locs cells slots lsC hn0 hσ hP hD hS hI hl hst hce hsl => ?_⟩
  obtain ⟨⟨hlt, hx, hb, hml, hown, hts⟩, ⟨hr, hlk, hnm, htb⟩, hK, hKn, hA, hfr, hlo⟩ := id C
  obtain ⟨hv, hst⟩ := List.forall_mem_cons.mp hst
  exact zs6 hx hb hd hf hl hv hi (fun ls' hl' => h.2 p e R s m args below meth c C σ0 n0 σ H locs cells slots ls' hn0 hσ hP hD hS hI hl' hst hce hsl)
theorem zp7 (hd : decode (zB μ) pc = .ok (i, len)) (hf : zFo (zMof μ).1 μ pc len 7 a b i = true) {x : Int} (hv : ls[a.toNat]? = some (0, x)) (h : zSnd l D κ ρ A g d μ (pc + len) (zSt ls a.toNat (0, w32 (x + b))) st S r) : zSnd l D κ ρ A g d μ pc ls st S r := by
  refine ⟨h.1, fun p e R s m args below meth c C σ0 n0 σ H locs cells slots lsC hn0 hσ hP hD hS hI hl hst hce hsl => ?_⟩
  obtain ⟨⟨hlt, hx, hb, hml, hown, hts⟩, ⟨hr, hlk, hnm, htb⟩, hK, hKn, hA, hfr, hlo⟩ := id C
  exact zs7 hx hb hd hf hl hv (fun ls' hl' => h.2 p e R s m args below meth c C σ0 n0 σ H locs cells slots ls' hn0 hσ hP hD hS hI hl' hst hce hsl)
theorem zp8 (hd : decode (zB μ) pc = .ok (i, len)) (hf : zFo (zMof μ).1 μ pc len 8 a b i = true) {x y z : Int} (hz : zBin a.toNat x y = some z) (h : zSnd l D κ ρ A g d μ (pc + len) ls ((0, z) :: st) S r) : zSnd l D κ ρ A g d μ pc ls ((0, y) :: (0, x) :: st) S r := by
  refine ⟨h.1, fun p e R s m args below meth c C σ0 n0 σ H locs cells slots lsC hn0 hσ hP hD hS hI hl hst hce hsl => ?_⟩
  obtain ⟨⟨hlt, hx, hb, hml, hown, hts⟩, ⟨hr, hlk, hnm, htb⟩, hK, hKn, hA, hfr, hlo⟩ := id C
  obtain ⟨h2, hst⟩ := List.forall_mem_cons.mp hst
  obtain ⟨h1, hst⟩ := List.forall_mem_cons.mp hst
  exact zs8 hx hb hd hf h1 h2 hz (h.2 p e R s m args below meth c C σ0 n0 σ H locs cells slots lsC hn0 hσ hP hD hS hI hl (z_cons (zBin_rng h1 hz) hst) hce hsl)
theorem zp9 (hd : decode (zB μ) pc = .ok (i, len)) (hf : zFo (zMof μ).1 μ pc len 9 a b i = true) {x y z : Int} (hz : zBinL a.toNat x y = some z) (h : zSnd l D κ ρ A g d μ (pc + len) ls ((1, z) :: st) S r) : zSnd l D κ ρ A g d μ pc ls ((1, y) :: (1, x) :: st) S r := by
  refine ⟨h.1, fun p e R s m args below meth c C σ0 n0 σ H locs cells slots lsC hn0 hσ hP hD hS hI hl hst hce hsl => ?_⟩
  obtain ⟨⟨hlt, hx, hb, hml, hown, hts⟩, ⟨hr, hlk, hnm, htb⟩, hK, hKn, hA, hfr, hlo⟩ := id C
  obtain ⟨h2, hst⟩ := List.forall_mem_cons.mp hst
  obtain ⟨h1, hst⟩ := List.forall_mem_cons.mp hst
  exact zs9 hx hb hd hf h1 h2 hz (h.2 p e R s m args below meth c C σ0 n0 σ H locs cells slots lsC hn0 hσ hP hD hS hI hl (z_cons (zBinL_rng h1 hz) hst) hce hsl)
theorem zp10 (hd : decode (zB μ) pc = .ok (i, len)) (hf : zFo (zMof μ).1 μ pc len 10 a b i = true) {x y : Int} (h : zSnd l D κ ρ A g d μ (pc + len) ls ((0, zCmp x y) :: st) S r) : zSnd l D κ ρ A g d μ pc ls ((1, y) :: (1, x) :: st) S r := by
  refine ⟨h.1, fun p e R s m args below meth c C σ0 n0 σ H locs cells slots lsC hn0 hσ hP hD hS hI hl hst hce hsl => ?_⟩
  obtain ⟨⟨hlt, hx, hb, hml, hown, hts⟩, ⟨hr, hlk, hnm, htb⟩, hK, hKn, hA, hfr, hlo⟩ := id C
  obtain ⟨h2, hst⟩ := List.forall_mem_cons.mp hst
  obtain ⟨h1, hst⟩ := List.forall_mem_cons.mp hst
  have hr0 : zr32 (zCmp x y) := by
    unfold zCmp zr32
    split
    · omega
    · split <;> omega
  exact zs10 hx hb hd hf h1 h2 (h.2 p e R s m args below meth c C σ0 n0 σ H locs cells slots lsC hn0 hσ hP hD hS hI hl (z_cons hr0 hst) hce hsl)
theorem zp11 (hd : decode (zB μ) pc = .ok (i, len)) (hf : zFo (zMof μ).1 μ pc len 11 a b i = true) {x : Int} {v : zV} (hz : zUn a.toNat x = some v) (h : zSnd l D κ ρ A g d μ (pc + len) ls (v :: st) S r) : zSnd l D κ ρ A g d μ pc ls ((0, x) :: st) S r := by
  refine ⟨h.1, fun p e R s m args below meth c C σ0 n0 σ H locs cells slots lsC hn0 hσ hP hD hS hI hl hst hce hsl => ?_⟩
  obtain ⟨⟨hlt, hx, hb, hml, hown, hts⟩, ⟨hr, hlk, hnm, htb⟩, hK, hKn, hA, hfr, hlo⟩ := id C
  obtain ⟨h1, hst⟩ := List.forall_mem_cons.mp hst
  have hok : zOk S.2.1 v := by
    unfold zUn at hz
    split at hz
    · cases hz
      have h1 : zr32 x := h1
      show zr64 x
      unfold zr32 at h1
      unfold zr64
      omega
    · cases hz
      show zr32 _
      unfold zr32
      dsimp only
      omega
    · cases hz
  exact zs11 hx hb hd hf h1 hz (h.2 p e R s m args below meth c C σ0 n0 σ H locs cells slots lsC hn0 hσ hP hD hS hI hl (z_cons hok hst) hce hsl)
theorem zp12 (hd : decode (zB μ) pc = .ok (i, len)) (hf : zFo (zMof μ).1 μ pc len 12 a b i = true) {v : zV} (hv : v.1 ≠ 1) (h : zSnd l D κ ρ A g d μ (pc + len) ls (v :: v :: st) S r) : zSnd l D κ ρ A g d μ pc ls (v :: st) S r := by
  refine ⟨h.1, fun p e R s m args below meth c C σ0 n0 σ H locs cells slots lsC hn0 hσ hP hD hS hI hl hst hce hsl => ?_⟩
  obtain ⟨⟨hlt, hx, hb, hml, hown, hts⟩, ⟨hr, hlk, hnm, htb⟩, hK, hKn, hA, hfr, hlo⟩ := id C
  obtain ⟨h1, hst1⟩ := List.forall_mem_cons.mp hst
  exact zs12 hx hb hd hf hv (h.2 p e R s m args below meth c C σ0 n0 σ H locs cells slots lsC hn0 hσ hP hD hS hI hl (z_cons h1 hst) hce hsl)
theorem zp13 (hd : decode (zB μ) pc = .ok (i, len)) (hf : zFo (zMof μ).1 μ pc len 13 a b i = true) {v : zV} (hv : v.1 ≠ 1) (h : zSnd l D κ ρ A g d μ (pc + len) ls st S r) : zSnd l D κ ρ A g d μ pc ls (v :: st) S r := by
  refine ⟨h.1, fun p e R s m args below meth c C σ0 n0 σ H locs cells slots lsC hn0 hσ hP hD hS hI hl hst hce hsl => ?_⟩
  obtain ⟨⟨hlt, hx, hb, hml, hown, hts⟩, ⟨hr, hlk, hnm, htb⟩, hK, hKn, hA, hfr, hlo⟩ := id C
  obtain ⟨h1, hst⟩ := List.forall_mem_cons.mp hst
  exact zs13 hx hb hd hf hv (h.2 p e R s m args below meth c C σ0 n0 σ H locs cells slots lsC hn0 hσ hP hD hS hI hl hst hce hsl)
theorem zp14 (hd : decode (zB μ) pc = .ok (i, len)) (hf : zFo (zMof μ).1 μ pc len 14 a b i = true) {v w : zV} (hv : v.1 ≠ 1) (hw : w.1 ≠ 1) (h : zSnd l D κ ρ A g d μ (pc + len) ls (v :: w :: v :: w :: st) S r) : zSnd l D κ ρ A g d μ pc ls (v :: w :: st) S r := by
  refine ⟨h.1, fun p e R s m args below meth c C σ0 n0 σ H locs cells slots lsC hn0 hσ hP hD hS hI hl hst hce hsl => ?_⟩
  obtain ⟨⟨hlt, hx, hb, hml, hown, hts⟩, ⟨hr, hlk, hnm, htb⟩, hK, hKn, hA, hfr, hlo⟩ := id C
  obtain ⟨h1, hst1⟩ := List.forall_mem_cons.mp hst
  obtain ⟨h2, hst2⟩ := List.forall_mem_cons.mp hst1
  exact zs14 hx hb hd hf hv hw (h.2 p e R s m args below meth c C σ0 n0 σ H locs cells slots lsC hn0 hσ hP hD hS hI hl (z_cons h1 (z_cons h2 hst)) hce hsl)
theorem zp15 (hd : decode (zB μ) pc = .ok (i, len)) (hf : zFo (zMof μ).1 μ pc len 15 a b i = true) {x : Int} (h : zSnd l D κ ρ A g d μ (if zCond a.toNat x 0 then b.toNat else pc + len) ls st S r) : zSnd l D κ ρ A g d μ pc ls ((0, x) :: st) S r := by
  refine ⟨h.1, fun p e R s m args below meth c C σ0 n0 σ H locs cells slots lsC hn0 hσ hP hD hS hI hl hst hce hsl => ?_⟩
  obtain ⟨⟨hlt, hx, hb, hml, hown, hts⟩, ⟨hr, hlk, hnm, htb⟩, hK, hKn, hA, hfr, hlo⟩ := id C
  obtain ⟨h1, hst⟩ := List.forall_mem_cons.mp hst
  exact zs15 hx hb hd hf h1 (h.2 p e R s m args below meth c C σ0 n0 σ H locs cells slots lsC hn0 hσ hP hD hS hI hl hst hce hsl)
theorem zp16 (hd : decode (zB μ) pc = .ok (i, len)) (hf : zFo (zMof μ).1 μ pc len 16 a b i = true) {x y : Int} (h : zSnd l D κ ρ A g d μ (if zCond a.toNat x y then b.toNat else pc + len) ls st S r) : zSnd l D κ ρ A g d μ pc ls ((0, y) :: (0, x) :: st) S r := by
  refine ⟨h.1, fun p e R s m args below meth c C σ0 n0 σ H locs cells slots lsC hn0 hσ hP hD hS hI hl hst hce hsl => ?_⟩
  obtain ⟨⟨hlt, hx, hb, hml, hown, hts⟩, ⟨hr, hlk, hnm, htb⟩, hK, hKn, hA, hfr, hlo⟩ := id C
  obtain ⟨h2, hst⟩ := List.forall_mem_cons.mp hst
  obtain ⟨h1, hst⟩ := List.forall_mem_cons.mp hst
  exact zs16 hx hb hd hf h1 h2 (h.2 p e R s m args below meth c C σ0 n0 σ H locs cells slots lsC hn0 hσ hP hD hS hI hl hst hce hsl)
theorem zp17 (hd : decode (zB μ) pc = .ok (i, len)) (hf : zFo (zMof μ).1 μ pc len 17 a b i = true)  (h : zSnd l D κ ρ A g d μ b.toNat ls st S r) : zSnd l D κ ρ A g d μ pc ls st S r := by
  refine ⟨h.1, fun p e R s m args below meth c C σ0 n0 σ H locs cells slots lsC hn0 hσ hP hD hS hI hl hst hce hsl => ?_⟩
  obtain ⟨⟨hlt, hx, hb, hml, hown, hts⟩, ⟨hr, hlk, hnm, htb⟩, hK, hKn, hA, hfr, hlo⟩ := id C
  exact zs17 hx hb hd hf (h.2 p e R s m args below meth c C σ0 n0 σ H locs cells slots lsC hn0 hσ hP hD hS hI hl hst hce hsl)
theorem zp19 (hd : decode (zB μ) pc = .ok (i, len)) (hf : zFo (zMof μ).1 μ pc len 19 a b i = true) {o : Int} (hi : zIs o a.toNat) (hne : S.1 = false → zTy a.toNat b.toNat = 2 → S.2.2.2 o b ≠ 0) (h : zSnd l D κ ρ A g d μ (pc + len) ls (zGv S o a.toNat b.toNat :: st) S r) : zSnd l D κ ρ A g d μ pc ls ((2, o) :: st) S r := by
  refine ⟨h.1, fun p e R s m args below meth c C σ0 n0 σ H locs cells slots lsC hn0 hσ hP hD hS hI hl hst hce hsl => ?_⟩
  obtain ⟨⟨hlt, hx, hb, hml, hown, hts⟩, ⟨hr, hlk, hnm, htb⟩, hK, hKn, hA, hfr, hlo⟩ := id C
  obtain ⟨h1, hst⟩ := List.forall_mem_cons.mp hst
  have h1 : 1 ≤ o ∧ o ≤ S.2.1 := h1
  have hf' := hf
  simp only [zFo, Bool.and_eq_true, beq_iff_eq, decide_eq_true_eq] at hf'
  obtain ⟨⟨-, hb0⟩, hf'⟩ := hf'
  have hc : a.toNat < 11 ∧ b.toNat < (zT3 a.toNat).2.2 := by
    split at hf'
    · rename_i x
      exact (zFs_in (e := ((zMof μ).1, x, a.toNat, b.toNat)) (by simpa using hf')).2
    · cases hf'
  obtain ⟨-, hN⟩ := zKN hi (by omega)
  have hbb : ((b.toNat : Nat) : Int) = b := by omega
  have hoo : ((o.toNat : Nat) : Int) = o := by omega
  have hfit := hI.1 o.toNat (by omega) (by omega) b.toNat
  rw [hoo, hbb, show (zK o).1 = a.toNat from hi] at hfit
  unfold zFits at hfit
  rw [if_pos (show a.toNat < 50 by omega)] at hfit
  have key : zc σ ρ (zGv S o a.toNat b.toNat) = zFv σ (zTy a.toNat b.toNat) (S.2.2.2 o b) ∧ zOk S.2.1 (zGv S o a.toNat b.toNat) := by
    unfold zGv zFv
    rw [hbb]
    by_cases e2 : zTy a.toNat b.toNat = 2
    · rw [if_pos e2, if_pos e2]
      rw [if_pos e2] at hfit
      have hval : (if S.1 = true ∧ zCs a.toNat b.toNat ≠ 0 then o + zCs a.toNat b.toNat else S.2.2.2 o b) = S.2.2.2 o b := by
        by_cases e3 : S.1 = true ∧ zCs a.toNat b.toNat ≠ 0
        · rw [if_pos e3]
          have hlay := ((hI.2.1 e3.1) o.toNat (by omega) (by omega)).1
          rw [hoo, show (zK o).1 = a.toNat from hi] at hlay
          have := (hlay (by omega) b.toNat).1 e3.2
          rw [hbb] at this
          exact this.symm
        · rw [if_neg e3]
      rw [hval]
      have hnz : S.2.2.2 o b ≠ 0 := by
        cases hS1 : S.1 with
        | false => exact hne hS1 e2
        | true =>
          have hlay := ((hI.2.1 hS1) o.toNat (by omega) (by omega)).1
          rw [hoo, show (zK o).1 = a.toNat from hi] at hlay
          have := (hlay (by omega) b.toNat).2 e2
          rw [hbb] at this
          exact this
      refine ⟨?_, ?_⟩
      · unfold zOpt
        rw [if_neg hnz]
        rfl
      · show 1 ≤ S.2.2.2 o b ∧ S.2.2.2 o b ≤ S.2.1
        omega
    · rw [if_neg e2, if_neg e2]
      rw [if_neg e2] at hfit
      exact ⟨rfl, hfit⟩
  have kk := h.2 p e R s m args below meth c C σ0 n0 σ H locs cells slots lsC hn0 hσ hP hD hS hI hl (z_cons key.2 hst) hce hsl
  rw [List.map_cons, key.1] at kk
  exact zs19 hx hb hown hts hd hf hK hP h1.1 h1.2 hi kk
end ZT
