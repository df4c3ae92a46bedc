/-! one abstract instruction, one of the machine's: what needs no heap -/
def zGd : List Cond := lw_tbl.filter goodWord
theorem zGd_in {w : Cond} (h : w ∈ lw_tbl) (g : goodWord w = true) : w ∈ zGd := List.mem_filter.mpr ⟨h, g⟩
theorem zrem' {x y : Int} (hx : zr32 x) (hy : zr32 y) : Int32.ofInt (x.tmod y) = Int32.ofInt x - Int32.ofInt x / Int32.ofInt y * Int32.ofInt y := by
  rw [← zdiv hx hy, zofw, ← Int32.ofInt_mul, ← Int32.ofInt_sub]
  congr 1
  rw [Int.tmod_def, Int.mul_comm]
theorem zrem64' {x y : Int} (hx : zr64 x) (hy : zr64 y) : Int64.ofInt (x.tmod y) = Int64.ofInt x - Int64.ofInt x / Int64.ofInt y * Int64.ofInt y := by
  rw [← zdiv64 hx hy, zofw64, ← Int64.ofInt_mul, ← Int64.ofInt_sub]
  congr 1
  rw [Int.tmod_def, Int.mul_comm]
section ZS
variable {p : Program} {l : Launch} {e : Env} {R : Room} {s : State} {m : MethodId} {args : Array Value} {below : List Frame} {meth : Method} {c : Code} {H : Heap} {locs : List Loc} {cells slots : Nat} {Q : State → Prop}
variable {σ ρ : Nat → Nat} {n nL : Nat} {L : List zV} {ls : Array Slot} {rest : List Value} {own μ pc len : Nat} {a b : Int} {i : Instr} {cc : ByteArray}
theorem zs1 (hx : p.tables.exec = Jvm.exec) (hb : c.code = cc) (hown : s.vm.findClass (zOwnL.getD own "") = some m.cls) (hts : ∀ w ∈ zGd, w.before args s = true) (hd : decode cc pc = .ok (i, len)) (hf : zFo own μ pc len 1 a b i = true)
    (k : W p l e R s m args below meth c H locs cells slots Q (F0 m (pc + len) ls (.int (Int32.ofInt a) :: rest))) : W p l e R s m args below meth c H locs cells slots Q (F0 m pc ls rest) := by
  simp only [zFo, Bool.and_eq_true, Bool.or_eq_true, beq_iff_eq, zIe_eq, decide_eq_true_eq] at hf
  obtain ⟨-, ((((⟨e1, e2⟩ | ⟨⟨⟨e1, e2⟩, e3⟩, e4⟩) | ⟨⟨⟨e1, e2⟩, e3⟩, e4⟩) | ⟨⟨e1, e2⟩, e3⟩) | ⟨⟨e1, e2⟩, e3⟩)⟩ := hf <;> subst e1 <;> subst e2
  · exact lv_iconst hx hb hd rfl k
  · exact lv_bipush hx hb hd (Int8.toInt32_ofInt e3 e4) k
  · exact lv_sipush hx hb hd (Int16.toInt32_ofInt e3 e4) k
  · exact lv_ldc hx hb hown (hts _ (zGd_in (zKs_in (e := (own, b.toNat, a)) (by simpa using e3)) rfl)) hd k
  · exact lv_ldcw hx hb hown (hts _ (zGd_in (zKs_in (e := (own, b.toNat, a)) (by simpa using e3)) rfl)) hd k
theorem zs2 (hx : p.tables.exec = Jvm.exec) (hb : c.code = cc) (hown : s.vm.findClass (zOwnL.getD own "") = some m.cls) (hts : ∀ w ∈ zGd, w.before args s = true) (hd : decode cc pc = .ok (i, len)) (hf : zFo own μ pc len 2 a b i = true)
    (k : W p l e R s m args below meth c H locs cells slots Q (F0 m (pc + len) ls (.long (Int64.ofInt a) :: rest))) : W p l e R s m args below meth c H locs cells slots Q (F0 m pc ls rest) := by
  simp only [zFo, Bool.and_eq_true, Bool.or_eq_true, beq_iff_eq, zIe_eq, decide_eq_true_eq] at hf
  obtain ((⟨⟨e1, e3⟩, e2⟩ | ⟨⟨e1, e3⟩, e2⟩) | ⟨⟨⟨⟨e1, e2⟩, -⟩, -⟩, e3⟩) := hf <;> subst e1 <;> subst e2
  · subst e3
    exact lv_lconst hx hb hd rfl k
  · subst e3
    exact lv_lconst hx hb hd rfl k
  · exact lv_ldc2 hx hb hown (hts _ (zGd_in (zJs_in (e := (own, b.toNat, a)) (by simpa using e3)) rfl)) hd k
theorem zs4 (hx : p.tables.exec = Jvm.exec) (hb : c.code = cc) (hd : decode cc pc = .ok (i, len)) (hf : zFo own μ pc len 4 a b i = true) (hl : zLs σ ρ n nL L ls) {v : zV} (hv : L[a.toNat]? = some v) (ht : zTok b v)
    (k : W p l e R s m args below meth c H locs cells slots Q (F0 m (pc + len) ls (zc σ ρ v :: rest))) : W p l e R s m args below meth c H locs cells slots Q (F0 m pc ls rest) := by
  obtain ⟨t, x⟩ := v
  simp only [zFo, Bool.and_eq_true, decide_eq_true_eq] at hf
  obtain ⟨ha, hf⟩ := hf
  split at hf <;> simp only [Bool.and_eq_true, beq_iff_eq, zIe_eq, Bool.false_eq_true] at hf
  · obtain ⟨⟨e1, e2⟩, e3⟩ := hf
    subst e2; subst e3
    have ht : t = 0 := ht
    subst ht
    exact lv_iload_n hx hb hd (i := a.toNat) (by omega) (zLs_at hl hv (by show (0 : Nat) ≠ 9; decide)) k
  · obtain ⟨⟨e1, e2⟩, e3⟩ := hf
    subst e2; subst e3
    have ht : t = 0 := ht
    subst ht
    subst e1
    exact lv_iload hx hb hd (zLs_at hl hv (by show (0 : Nat) ≠ 9; decide)) k
  · obtain ⟨⟨e1, e2⟩, e3⟩ := hf
    subst e2; subst e3
    have ht : t = 1 := ht
    subst ht
    exact lv_lload_n hx hb hd (i := a.toNat) (by omega) (zLs_at hl hv (by show (1 : Nat) ≠ 9; decide)) k
  · obtain ⟨⟨e1, e2⟩, e3⟩ := hf
    subst e2; subst e3
    have ht : t = 1 := ht
    subst ht
    subst e1
    exact lv_lload hx hb hd (zLs_at hl hv (by show (1 : Nat) ≠ 9; decide)) k
  · obtain ⟨⟨e1, e2⟩, e3⟩ := hf
    subst e2; subst e3
    have ht : t = 2 ∨ t = 4 ∨ t = 5 := ht
    rcases ht with ht | ht | ht <;> subst ht
    · exact lv_aload_n hx hb hd (i := a.toNat) (by omega) (zLs_at hl hv (by show (2 : Nat) ≠ 9; decide)) k
    · exact lv_aload_n hx hb hd (i := a.toNat) (by omega) (zLs_at hl hv (by show (4 : Nat) ≠ 9; decide)) k
    · exact lv_aload_n hx hb hd (i := a.toNat) (by omega) (zLs_at hl hv (by show (5 : Nat) ≠ 9; decide)) k
  · obtain ⟨⟨e1, e2⟩, e3⟩ := hf
    subst e2; subst e3
    have ht : t = 2 ∨ t = 4 ∨ t = 5 := ht
    subst e1
    rcases ht with ht | ht | ht <;> subst ht
    · exact lv_aload hx hb hd (zLs_at hl hv (by show (2 : Nat) ≠ 9; decide)) k
    · exact lv_aload hx hb hd (zLs_at hl hv (by show (4 : Nat) ≠ 9; decide)) k
    · exact lv_aload hx hb hd (zLs_at hl hv (by show (5 : Nat) ≠ 9; decide)) k
theorem zs5 (hx : p.tables.exec = Jvm.exec) (hb : c.code = cc) (hd : decode cc pc = .ok (i, len)) (hf : zFo own μ pc len 5 a b i = true) (hl : zLs σ ρ n nL L ls) {v : zV} (hok : zOk n v) (ht : b = 0 ∧ v.1 = 0 ∨ b = 2 ∧ (v.1 = 2 ∨ v.1 = 4 ∨ v.1 = 5)) (hi : a.toNat < L.length)
    (k : ∀ ls', zLs σ ρ n nL (zSt L a.toNat v) ls' → W p l e R s m args below meth c H locs cells slots Q (F0 m (pc + len) ls' rest)) : W p l e R s m args below meth c H locs cells slots Q (F0 m pc ls (zc σ ρ v :: rest)) := by
  obtain ⟨t, x⟩ := v
  have hn : a.toNat < nL := hl.1 ▸ hi
  simp only [zFo] at hf
  split at hf <;> simp only [Bool.and_eq_true, beq_iff_eq, zIe_eq, Bool.false_eq_true] at hf
  · obtain ⟨⟨e1, e2⟩, e3⟩ := hf
    subst e2; subst e3
    have ht : t = 0 := by rcases ht with ⟨-, h⟩ | ⟨h, -⟩; exact h; exact absurd h (by decide)
    subst ht
    exact lv_istore_n hx hb hd (i := a.toNat) (by omega) hl.2.1 hn rfl (fun ls' h' => k ls' (zLs_st hl hn hok rfl h'))
  · obtain ⟨⟨e1, e2⟩, e3⟩ := hf
    subst e2; subst e3
    have ht : t = 0 := by rcases ht with ⟨-, h⟩ | ⟨h, -⟩; exact h; exact absurd h (by decide)
    subst ht
    subst e1
    exact lv_istore hx hb hd hl.2.1 hn rfl (fun ls' h' => k ls' (zLs_st hl hn hok rfl h'))
  · obtain ⟨⟨e1, e2⟩, e3⟩ := hf
    subst e2; subst e3
    have ht : t = 2 ∨ t = 4 ∨ t = 5 := by rcases ht with ⟨h, -⟩ | ⟨-, h⟩; exact absurd h (by decide); exact h
    rcases ht with ht | ht | ht <;> subst ht
    · exact lv_astore_n hx hb hd (i := a.toNat) (by omega) hl.2.1 hn rfl (fun ls' h' => k ls' (zLs_st hl hn hok rfl h'))
    · exact lv_astore_n hx hb hd (i := a.toNat) (by omega) hl.2.1 hn rfl (fun ls' h' => k ls' (zLs_st hl hn hok rfl h'))
    · exact lv_astore_n hx hb hd (i := a.toNat) (by omega) hl.2.1 hn rfl (fun ls' h' => k ls' (zLs_st hl hn hok rfl h'))
  · obtain ⟨⟨e1, e2⟩, e3⟩ := hf
    subst e2; subst e3
    have ht : t = 2 ∨ t = 4 ∨ t = 5 := by rcases ht with ⟨h, -⟩ | ⟨-, h⟩; exact absurd h (by decide); exact h
    subst e1
    rcases ht with ht | ht | ht <;> subst ht
    · exact lv_astore hx hb hd hl.2.1 hn rfl (fun ls' h' => k ls' (zLs_st hl hn hok rfl h'))
    · exact lv_astore hx hb hd hl.2.1 hn rfl (fun ls' h' => k ls' (zLs_st hl hn hok rfl h'))
    · exact lv_astore hx hb hd hl.2.1 hn rfl (fun ls' h' => k ls' (zLs_st hl hn hok rfl h'))
theorem zs6 (hx : p.tables.exec = Jvm.exec) (hb : c.code = cc) (hd : decode cc pc = .ok (i, len)) (hf : zFo own μ pc len 6 a b i = true) (hl : zLs σ ρ n nL L ls) {x : Int} (hok : zr64 x) (hi : a.toNat + 1 < L.length)
    (k : ∀ ls', zLs σ ρ n nL (zSt2 L a.toNat (1, x)) ls' → W p l e R s m args below meth c H locs cells slots Q (F0 m (pc + len) ls' rest)) : W p l e R s m args below meth c H locs cells slots Q (F0 m pc ls (.long (Int64.ofInt x) :: rest)) := by
  have hn : a.toNat + 1 < nL := hl.1 ▸ hi
  simp only [zFo] at hf
  split at hf <;> simp only [Bool.and_eq_true, beq_iff_eq, zIe_eq, Bool.false_eq_true] at hf
  · obtain ⟨e1, e3⟩ := hf
    subst e3
    exact lv_lstore_n hx hb hd (i := a.toNat) (by omega) hl.2.1 hn rfl (fun ls' h' => k ls' (zLs_st2 hl hn hok rfl h'))
  · obtain ⟨e1, e3⟩ := hf
    subst e3
    subst e1
    exact lv_lstore hx hb hd hl.2.1 hn rfl (fun ls' h' => k ls' (zLs_st2 hl hn hok rfl h'))
theorem zs7 (hx : p.tables.exec = Jvm.exec) (hb : c.code = cc) (hd : decode cc pc = .ok (i, len)) (hf : zFo own μ pc len 7 a b i = true) (hl : zLs σ ρ n nL L ls) {x : Int} (hv : L[a.toNat]? = some (0, x))
    (k : ∀ ls', zLs σ ρ n nL (zSt L a.toNat (0, w32 (x + b))) ls' → W p l e R s m args below meth c H locs cells slots Q (F0 m (pc + len) ls' rest)) : W p l e R s m args below meth c H locs cells slots Q (F0 m pc ls rest) := by
  have hn : a.toNat < nL := hl.1 ▸ (List.getElem?_eq_some_iff.mp hv).1
  simp only [zFo, Bool.and_eq_true, beq_iff_eq, zIe_eq, decide_eq_true_eq] at hf
  obtain ⟨⟨e1, e2⟩, -⟩ := hf
  subst e1; subst e2
  obtain ⟨j, hj⟩ := List.getElem?_of_mem (zLv_mem (σ := σ) (ρ := ρ) (L := L) (q := (a.toNat, .int (Int32.ofInt x))) |>.mpr ⟨(0, x), hv, by show (0 : Nat) ≠ 9; decide, rfl⟩)
  exact lv_iinc hx hb hd hl.2.1 (k := j) hj (v := Int32.ofInt (w32 (x + b))) (zadd x b).symm hn rfl (fun ls' h' => k ls' (zLs_st (v := (0, w32 (x + b))) hl hn (zr32_w _) rfl h'))
theorem zs8 (hx : p.tables.exec = Jvm.exec) (hb : c.code = cc) (hd : decode cc pc = .ok (i, len)) (hf : zFo own μ pc len 8 a b i = true) {x y z : Int} (h1 : zr32 x) (h2 : zr32 y) (hz : zBin a.toNat x y = some z)
    (k : W p l e R s m args below meth c H locs cells slots Q (F0 m (pc + len) ls (.int (Int32.ofInt z) :: rest))) : W p l e R s m args below meth c H locs cells slots Q (F0 m pc ls (.int (Int32.ofInt y) :: .int (Int32.ofInt x) :: rest)) := by
  simp only [zFo, Bool.and_eq_true, beq_iff_eq, zIe_eq, decide_eq_true_eq] at hf
  obtain ⟨⟨⟨e1, e2⟩, h0⟩, h10⟩ := hf
  subst e1; subst e2
  obtain ⟨j, rfl⟩ : ∃ j : Nat, a = (j : Int) := ⟨a.toNat, by omega⟩
  rw [Int.toNat_natCast] at hz
  have hj : j = 0 ∨ j = 1 ∨ j = 2 ∨ j = 3 ∨ j = 4 ∨ j = 5 ∨ j = 6 ∨ j = 7 ∨ j = 8 ∨ j = 9 ∨ j = 10 := by omega
  rcases hj with rfl | rfl | rfl | rfl | rfl | rfl | rfl | rfl | rfl | rfl | rfl
  · cases hz; rw [zadd] at k; exact lv_iadd hx hb hd k
  · cases hz; rw [zsub] at k; exact lv_isub hx hb hd k
  · cases hz; rw [zmul] at k; exact lv_imul hx hb hd k
  · simp only [zBin] at hz
    split at hz
    · cases hz
    · rename_i hy
      cases hz; rw [zdiv h1 h2] at k; exact lv_idiv hx hb hd (fun q => hy ((zeq0 h2).mp q)) k
  · simp only [zBin] at hz
    split at hz
    · cases hz
    · rename_i hy
      cases hz; rw [zrem' h1 h2] at k; exact lv_irem hx hb hd (fun q => hy ((zeq0 h2).mp q)) k
  · cases hz; unfold zAnd at k; rw [Int32.ofInt_toInt] at k; exact lv_iand hx hb hd k
  · cases hz; unfold zOr at k; rw [Int32.ofInt_toInt] at k; exact lv_ior hx hb hd k
  · cases hz; unfold zXor at k; rw [Int32.ofInt_toInt] at k; exact lv_ixor hx hb hd k
  · cases hz; unfold zShl at k; rw [Int32.ofInt_toInt] at k; exact lv_ishl hx hb hd k
  · cases hz; unfold zShr at k; rw [Int32.ofInt_toInt] at k; exact lv_ishr hx hb hd k
  · cases hz; unfold zUsh at k; rw [Int32.ofInt_toInt] at k; exact lv_iushr hx hb hd rfl k
theorem zs9 (hx : p.tables.exec = Jvm.exec) (hb : c.code = cc) (hd : decode cc pc = .ok (i, len)) (hf : zFo own μ pc len 9 a b i = true) {x y z : Int} (h1 : zr64 x) (h2 : zr64 y) (hz : zBinL a.toNat x y = some z)
    (k : W p l e R s m args below meth c H locs cells slots Q (F0 m (pc + len) ls (.long (Int64.ofInt z) :: rest))) : W p l e R s m args below meth c H locs cells slots Q (F0 m pc ls (.long (Int64.ofInt y) :: .long (Int64.ofInt x) :: rest)) := by
  simp only [zFo, Bool.and_eq_true, beq_iff_eq, zIe_eq, decide_eq_true_eq] at hf
  obtain ⟨⟨⟨e1, e2⟩, h0⟩, h10⟩ := hf
  subst e1; subst e2
  obtain ⟨j, rfl⟩ : ∃ j : Nat, a = (j : Int) := ⟨a.toNat, by omega⟩
  rw [Int.toNat_natCast] at hz
  have hj : j = 0 ∨ j = 1 ∨ j = 2 ∨ j = 3 ∨ j = 4 := by omega
  have h00 : Int64.ofInt y = 0 → y = 0 := fun q => (zeq64 (y := 0) h2 (by unfold zr64; omega)).mp q
  rcases hj with rfl | rfl | rfl | rfl | rfl
  · cases hz; rw [zadd64] at k; exact lv_ladd hx hb hd k
  · cases hz; rw [zsub64] at k; exact lv_lsub hx hb hd k
  · cases hz; rw [zmul64] at k; exact lv_lmul hx hb hd k
  · simp only [zBinL] at hz
    split at hz
    · cases hz
    · rename_i hy
      cases hz; rw [zdiv64 h1 h2] at k; exact lv_ldiv hx hb hd (fun q => hy (h00 q)) k
  · simp only [zBinL] at hz
    split at hz
    · cases hz
    · rename_i hy
      cases hz; rw [zrem64' h1 h2] at k; exact lv_lrem hx hb hd (fun q => hy (h00 q)) k
theorem zs10 (hx : p.tables.exec = Jvm.exec) (hb : c.code = cc) (hd : decode cc pc = .ok (i, len)) (hf : zFo own μ pc len 10 a b i = true) {x y : Int} (h1 : zr64 x) (h2 : zr64 y)
    (k : W p l e R s m args below meth c H locs cells slots Q (F0 m (pc + len) ls (.int (Int32.ofInt (zCmp x y)) :: rest))) : W p l e R s m args below meth c H locs cells slots Q (F0 m pc ls (.long (Int64.ofInt y) :: .long (Int64.ofInt x) :: rest)) := by
  simp only [zFo, Bool.and_eq_true, beq_iff_eq, zIe_eq] at hf
  obtain ⟨e1, e2⟩ := hf
  subst e1; subst e2
  rw [← zcmp64 h1 h2] at k
  exact W.lcmp hx hb hd k
theorem zs11 (hx : p.tables.exec = Jvm.exec) (hb : c.code = cc) (hd : decode cc pc = .ok (i, len)) (hf : zFo own μ pc len 11 a b i = true) {x : Int} {v : zV} (h1 : zr32 x) (hz : zUn a.toNat x = some v)
    (k : W p l e R s m args below meth c H locs cells slots Q (F0 m (pc + len) ls (zc σ ρ v :: rest))) : W p l e R s m args below meth c H locs cells slots Q (F0 m pc ls (.int (Int32.ofInt x) :: rest)) := by
  simp only [zFo, Bool.and_eq_true, Bool.or_eq_true, beq_iff_eq, zIe_eq] at hf
  obtain (⟨⟨e1, e2⟩, e3⟩ | ⟨⟨e1, e2⟩, e3⟩) := hf <;> subst e1 <;> subst e2 <;> subst e3
  · cases hz
    exact lv_i2l hx hb hd (zi2l h1) k
  · cases hz
    exact lv_i2b hx hb hd (zi2b h1) k
theorem zs12 (hx : p.tables.exec = Jvm.exec) (hb : c.code = cc) (hd : decode cc pc = .ok (i, len)) (hf : zFo own μ pc len 12 a b i = true) {v : zV} (hv : v.1 ≠ 1)
    (k : W p l e R s m args below meth c H locs cells slots Q (F0 m (pc + len) ls (zc σ ρ v :: zc σ ρ v :: rest))) : W p l e R s m args below meth c H locs cells slots Q (F0 m pc ls (zc σ ρ v :: rest)) := by
  simp only [zFo, Bool.and_eq_true, beq_iff_eq, zIe_eq] at hf
  obtain ⟨e1, e2⟩ := hf
  subst e1; subst e2
  exact lv_dup hx hb hd (by rw [zc_cat]; unfold zcat; rw [if_neg hv]) k
theorem zs13 (hx : p.tables.exec = Jvm.exec) (hb : c.code = cc) (hd : decode cc pc = .ok (i, len)) (hf : zFo own μ pc len 13 a b i = true) {v : zV} (hv : v.1 ≠ 1)
    (k : W p l e R s m args below meth c H locs cells slots Q (F0 m (pc + len) ls rest)) : W p l e R s m args below meth c H locs cells slots Q (F0 m pc ls (zc σ ρ v :: rest)) := by
  simp only [zFo, Bool.and_eq_true, beq_iff_eq, zIe_eq] at hf
  obtain ⟨e1, e2⟩ := hf
  subst e1; subst e2
  exact lv_pop hx hb hd (by rw [zc_cat]; unfold zcat; rw [if_neg hv]) k
theorem zs14 (hx : p.tables.exec = Jvm.exec) (hb : c.code = cc) (hd : decode cc pc = .ok (i, len)) (hf : zFo own μ pc len 14 a b i = true) {v w : zV} (hv : v.1 ≠ 1) (hw : w.1 ≠ 1)
    (k : W p l e R s m args below meth c H locs cells slots Q (F0 m (pc + len) ls (zc σ ρ v :: zc σ ρ w :: zc σ ρ v :: zc σ ρ w :: rest))) : W p l e R s m args below meth c H locs cells slots Q (F0 m pc ls (zc σ ρ v :: zc σ ρ w :: rest)) := by
  simp only [zFo, Bool.and_eq_true, beq_iff_eq, zIe_eq] at hf
  obtain ⟨e1, e2⟩ := hf
  subst e1; subst e2
  exact lv_dup2_11 hx hb hd (by rw [zc_cat]; unfold zcat; rw [if_neg hv]) (by rw [zc_cat]; unfold zcat; rw [if_neg hw]) k
theorem zs15 (hx : p.tables.exec = Jvm.exec) (hb : c.code = cc) (hd : decode cc pc = .ok (i, len)) (hf : zFo own μ pc len 15 a b i = true) {x : Int} (h1 : zr32 x)
    (k : W p l e R s m args below meth c H locs cells slots Q (F0 m (if zCond a.toNat x 0 then b.toNat else pc + len) ls rest)) : W p l e R s m args below meth c H locs cells slots Q (F0 m pc ls (.int (Int32.ofInt x) :: rest)) := by
  simp only [zFo, Bool.and_eq_true, beq_iff_eq, zIe_eq, decide_eq_true_eq] at hf
  obtain ⟨⟨⟨⟨e1, e2⟩, hb0⟩, ha0⟩, ha5⟩ := hf
  subst e1; subst e2
  have ht : (pc : Int) + (b - pc) = (b.toNat : Int) := by omega
  obtain ⟨j, rfl⟩ : ∃ j : Nat, a = (j : Int) := ⟨a.toNat, by omega⟩
  rw [Int.toNat_natCast] at k
  have hj : j = 0 ∨ j = 1 ∨ j = 2 ∨ j = 3 ∨ j = 4 ∨ j = 5 := by omega
  have z0 : (0 : Int32) = Int32.ofInt 0 := rfl
  rcases hj with rfl | rfl | rfl | rfl | rfl | rfl <;> simp only [zCond, decide_eq_true_eq] at k
  · exact lv_if_eq hx hb hd ht (fun q => by rw [if_pos ((zeq0 h1).mp q)] at k; exact k) (fun q => by rw [if_neg (fun z => q ((zeq0 h1).mpr z))] at k; exact k)
  · exact lv_if_ne hx hb hd ht (fun q => by rw [if_pos (fun z => q ((zeq0 h1).mpr z))] at k; exact k) (fun q => by rw [if_neg (fun z => z ((zeq0 h1).mp q))] at k; exact k)
  · exact lv_if_lt hx hb hd ht (fun q => by rw [if_pos ((zlt h1 zr32_0).mp q)] at k; exact k) (fun q => by rw [if_neg (fun z => q ((zlt h1 zr32_0).mpr z))] at k; exact k)
  · exact lv_if_ge hx hb hd ht (fun q => by rw [if_pos ((zle zr32_0 h1).mp q)] at k; exact k) (fun q => by rw [if_neg (fun z => q ((zle zr32_0 h1).mpr z))] at k; exact k)
  · exact lv_if_gt hx hb hd ht (fun q => by rw [if_pos ((zlt zr32_0 h1).mp q)] at k; exact k) (fun q => by rw [if_neg (fun z => q ((zlt zr32_0 h1).mpr z))] at k; exact k)
  · exact lv_if_le hx hb hd ht (fun q => by rw [if_pos ((zle h1 zr32_0).mp q)] at k; exact k) (fun q => by rw [if_neg (fun z => q ((zle h1 zr32_0).mpr z))] at k; exact k)
theorem zs16 (hx : p.tables.exec = Jvm.exec) (hb : c.code = cc) (hd : decode cc pc = .ok (i, len)) (hf : zFo own μ pc len 16 a b i = true) {x y : Int} (h1 : zr32 x) (h2 : zr32 y)
    (k : W p l e R s m args below meth c H locs cells slots Q (F0 m (if zCond a.toNat x y then b.toNat else pc + len) ls rest)) : W p l e R s m args below meth c H locs cells slots Q (F0 m pc ls (.int (Int32.ofInt y) :: .int (Int32.ofInt x) :: rest)) := by
  simp only [zFo, Bool.and_eq_true, beq_iff_eq, zIe_eq, decide_eq_true_eq] at hf
  obtain ⟨⟨⟨⟨e1, e2⟩, hb0⟩, ha0⟩, ha5⟩ := hf
  subst e1; subst e2
  have ht : (pc : Int) + (b - pc) = (b.toNat : Int) := by omega
  obtain ⟨j, rfl⟩ : ∃ j : Nat, a = (j : Int) := ⟨a.toNat, by omega⟩
  rw [Int.toNat_natCast] at k
  have hj : j = 0 ∨ j = 1 ∨ j = 2 ∨ j = 3 ∨ j = 4 ∨ j = 5 := by omega
  rcases hj with rfl | rfl | rfl | rfl | rfl | rfl <;> simp only [zCond, decide_eq_true_eq] at k
  · exact lv_icmp_eq hx hb hd ht (fun q => by rw [if_pos ((zeq h1 h2).mp q)] at k; exact k) (fun q => by rw [if_neg (fun z => q ((zeq h1 h2).mpr z))] at k; exact k)
  · exact lv_icmp_ne hx hb hd ht (fun q => by rw [if_pos (fun z => q ((zeq h1 h2).mpr z))] at k; exact k) (fun q => by rw [if_neg (fun z => z ((zeq h1 h2).mp q))] at k; exact k)
  · exact lv_icmp_lt hx hb hd ht (fun q => by rw [if_pos ((zlt h1 h2).mp q)] at k; exact k) (fun q => by rw [if_neg (fun z => q ((zlt h1 h2).mpr z))] at k; exact k)
  · exact lv_icmp_ge hx hb hd ht (fun q => by rw [if_pos ((zle h2 h1).mp q)] at k; exact k) (fun q => by rw [if_neg (fun z => q ((zle h2 h1).mpr z))] at k; exact k)
  · exact lv_icmp_gt hx hb hd ht (fun q => by rw [if_pos ((zlt h2 h1).mp q)] at k; exact k) (fun q => by rw [if_neg (fun z => q ((zlt h2 h1).mpr z))] at k; exact k)
  · exact lv_icmp_le hx hb hd ht (fun q => by rw [if_pos ((zle h1 h2).mp q)] at k; exact k) (fun q => by rw [if_neg (fun z => q ((zle h1 h2).mpr z))] at k; exact k)
theorem zs17 (hx : p.tables.exec = Jvm.exec) (hb : c.code = cc) (hd : decode cc pc = .ok (i, len)) (hf : zFo own μ pc len 17 a b i = true)
    (k : W p l e R s m args below meth c H locs cells slots Q (F0 m b.toNat ls rest)) : W p l e R s m args below meth c H locs cells slots Q (F0 m pc ls rest) := by
  simp only [zFo, Bool.and_eq_true, beq_iff_eq, zIe_eq, decide_eq_true_eq] at hf
  obtain ⟨⟨e1, e2⟩, hb0⟩ := hf
  subst e1; subst e2
  exact lv_goto hx hb hd (by omega) k
end ZS
