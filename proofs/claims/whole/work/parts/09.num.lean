/-! numbers: integers in a range stand for the machine's -/
theorem w32_bmod (z : Int) : w32 z = z.bmod (2 ^ 32) := by
  unfold w32 Int.bmod
  dsimp only
  split <;> omega
theorem w64_bmod (z : Int) : w64 z = z.bmod (2 ^ 64) := by
  unfold w64 Int.bmod
  dsimp only
  split <;> omega
theorem zr32_w (z : Int) : zr32 (w32 z) := by unfold zr32 w32; omega
theorem zr64_w (z : Int) : zr64 (w64 z) := by unfold zr64 w64; omega
theorem w32_id {x : Int} (h : zr32 x) : w32 x = x := by unfold zr32 at h; unfold w32; omega
theorem w64_id {x : Int} (h : zr64 x) : w64 x = x := by unfold zr64 at h; unfold w64; omega
theorem zr32_toInt (x : Int32) : zr32 x.toInt := by
  have h1 := x.le_toInt
  have h2 := x.toInt_lt
  unfold zr32
  omega
theorem zr64_toInt (x : Int64) : zr64 x.toInt := by
  have h1 := x.le_toInt
  have h2 := x.toInt_lt
  unfold zr64
  omega
theorem zti {x : Int} (h : zr32 x) : (Int32.ofInt x).toInt = x := Int32.toInt_ofInt_of_le (by unfold zr32 at h; omega) (by unfold zr32 at h; omega)
theorem zti64 {x : Int} (h : zr64 x) : (Int64.ofInt x).toInt = x := Int64.toInt_ofInt_of_le (by unfold zr64 at h; omega) (by unfold zr64 at h; omega)
theorem zofw (z : Int) : Int32.ofInt (w32 z) = Int32.ofInt z := by
  apply Int32.toInt_inj.mp
  rw [zti (zr32_w z), w32_bmod, Int32.toInt_ofInt]
theorem zofw64 (z : Int) : Int64.ofInt (w64 z) = Int64.ofInt z := by
  apply Int64.toInt_inj.mp
  rw [zti64 (zr64_w z), w64_bmod, Int64.toInt_ofInt]
theorem zadd (x y : Int) : Int32.ofInt (w32 (x + y)) = Int32.ofInt x + Int32.ofInt y := by rw [zofw, Int32.ofInt_add]
theorem zsub (x y : Int) : Int32.ofInt (w32 (x - y)) = Int32.ofInt x - Int32.ofInt y := by rw [zofw, Int32.ofInt_sub]
theorem zmul (x y : Int) : Int32.ofInt (w32 (x * y)) = Int32.ofInt x * Int32.ofInt y := by rw [zofw, Int32.ofInt_mul]
theorem zneg (x : Int) : Int32.ofInt (w32 (-x)) = 0 - Int32.ofInt x := by rw [zofw, Int32.ofInt_neg]; simp
theorem zadd64 (x y : Int) : Int64.ofInt (w64 (x + y)) = Int64.ofInt x + Int64.ofInt y := by rw [zofw64, Int64.ofInt_add]
theorem zsub64 (x y : Int) : Int64.ofInt (w64 (x - y)) = Int64.ofInt x - Int64.ofInt y := by rw [zofw64, Int64.ofInt_sub]
theorem zmul64 (x y : Int) : Int64.ofInt (w64 (x * y)) = Int64.ofInt x * Int64.ofInt y := by rw [zofw64, Int64.ofInt_mul]
theorem zdiv {x y : Int} (hx : zr32 x) (hy : zr32 y) : Int32.ofInt (w32 (x.tdiv y)) = Int32.ofInt x / Int32.ofInt y := by
  apply Int32.toInt_inj.mp
  rw [zti (zr32_w _), Int32.toInt_div, zti hx, zti hy, w32_bmod]
theorem zdiv64 {x y : Int} (hx : zr64 x) (hy : zr64 y) : Int64.ofInt (w64 (x.tdiv y)) = Int64.ofInt x / Int64.ofInt y := by
  apply Int64.toInt_inj.mp
  rw [zti64 (zr64_w _), Int64.toInt_div, zti64 hx, zti64 hy, w64_bmod]
theorem zr32_tmod {x y : Int} (hx : zr32 x) : zr32 (x.tmod y) := by
  have h1 : (x.tmod y).natAbs ≤ x.natAbs := by
    rw [Int.natAbs_tmod]
    exact Nat.mod_le _ _
  have h2 : 0 ≤ x → 0 ≤ x.tmod y := fun h => Int.tmod_nonneg y h
  have h3 : x ≤ 0 → x.tmod y ≤ 0 := fun h => by
    have h4 := Int.tmod_nonneg y (show 0 ≤ -x by omega)
    rw [Int.neg_tmod] at h4
    omega
  unfold zr32 at hx ⊢
  omega
theorem zr64_tmod {x y : Int} (hx : zr64 x) : zr64 (x.tmod y) := by
  have h1 : (x.tmod y).natAbs ≤ x.natAbs := by
    rw [Int.natAbs_tmod]
    exact Nat.mod_le _ _
  have h2 : 0 ≤ x → 0 ≤ x.tmod y := fun h => Int.tmod_nonneg y h
  have h3 : x ≤ 0 → x.tmod y ≤ 0 := fun h => by
    have h4 := Int.tmod_nonneg y (show 0 ≤ -x by omega)
    rw [Int.neg_tmod] at h4
    omega
  unfold zr64 at hx ⊢
  omega
theorem zrem {x y : Int} (hx : zr32 x) (hy : zr32 y) : Int32.ofInt (x.tmod y) = Int32.ofInt x % Int32.ofInt y := by
  apply Int32.toInt_inj.mp
  rw [zti (zr32_tmod hx), Int32.toInt_mod, zti hx, zti hy]
theorem zrem64 {x y : Int} (hx : zr64 x) (hy : zr64 y) : Int64.ofInt (x.tmod y) = Int64.ofInt x % Int64.ofInt y := by
  apply Int64.toInt_inj.mp
  rw [zti64 (zr64_tmod hx), Int64.toInt_mod, zti64 hx, zti64 hy]
theorem zlt {x y : Int} (hx : zr32 x) (hy : zr32 y) : Int32.ofInt x < Int32.ofInt y ↔ x < y := by rw [Int32.lt_iff_toInt_lt, zti hx, zti hy]
theorem zle {x y : Int} (hx : zr32 x) (hy : zr32 y) : Int32.ofInt x ≤ Int32.ofInt y ↔ x ≤ y := by rw [Int32.le_iff_toInt_le, zti hx, zti hy]
theorem zeq {x y : Int} (hx : zr32 x) (hy : zr32 y) : Int32.ofInt x = Int32.ofInt y ↔ x = y := by rw [← Int32.toInt_inj, zti hx, zti hy]
theorem zlt64 {x y : Int} (hx : zr64 x) (hy : zr64 y) : Int64.ofInt x < Int64.ofInt y ↔ x < y := by rw [Int64.lt_iff_toInt_lt, zti64 hx, zti64 hy]
theorem zeq64 {x y : Int} (hx : zr64 x) (hy : zr64 y) : Int64.ofInt x = Int64.ofInt y ↔ x = y := by rw [← Int64.toInt_inj, zti64 hx, zti64 hy]
theorem zr32_0 : zr32 0 := by unfold zr32; omega
theorem zeq0 {x : Int} (hx : zr32 x) : Int32.ofInt x = 0 ↔ x = 0 := zeq (y := 0) hx zr32_0
theorem zclamp {i : Int} (hi : zr32 i) : (Int32.ofInt i).toNatClampNeg = i.toNat := by unfold Int32.toNatClampNeg; rw [zti hi]
theorem zvp {i : Int} {n : Nat} (hr : zr32 i) (h0 : 0 ≤ i) (h1 : i < n) : vp_in (Int32.ofInt i) n := by
  unfold vp_in
  rw [zclamp hr, show (Int32.ofInt i < 0) = (Int32.ofInt i < Int32.ofInt 0) from rfl, zlt hr zr32_0]
  omega
theorem znn {i : Int} (hr : zr32 i) (h0 : 0 ≤ i) : ¬ Int32.ofInt i < 0 := by
  rw [show (Int32.ofInt i < 0) = (Int32.ofInt i < Int32.ofInt 0) from rfl, zlt hr zr32_0]
  omega
theorem zi2l {x : Int} (hx : zr32 x) : (Int32.ofInt x).toInt64 = Int64.ofInt x := by
  apply Int64.toInt_inj.mp
  rw [Int32.toInt_toInt64, zti hx, zti64 (by unfold zr32 at hx; unfold zr64; omega)]
theorem zi2b {x : Int} (hx : zr32 x) : (Int32.ofInt x).toInt8.toInt32 = Int32.ofInt ((x + 128) % 256 - 128) := by
  apply Int32.toInt_inj.mp
  rw [Int8.toInt_toInt32, Int32.toInt_toInt8, zti hx, zti (by unfold zr32; omega)]
  unfold Int.bmod
  dsimp only
  split <;> omega
theorem zcmp64 {x y : Int} (hx : zr64 x) (hy : zr64 y) : lg_cmp (Int64.ofInt x) (Int64.ofInt y) = Int32.ofInt (zCmp x y) := by
  unfold lg_cmp zCmp
  simp only [gt_iff_lt, zlt64 hy hx, zeq64 hx hy]
  split
  · rw [if_neg (by omega), if_neg (by omega)]; rfl
  · split
    · rw [if_neg (by omega)]; rfl
    · rw [if_pos (by omega)]; rfl
theorem zBin_rng {a : Nat} {x y c : Int} (hx : zr32 x) (h : zBin a x y = some c) : zr32 c := by
  unfold zBin at h
  split at h
  · cases h; exact zr32_w _
  · cases h; exact zr32_w _
  · cases h; exact zr32_w _
  · split at h
    · cases h
    · cases h; exact zr32_w _
  · split at h
    · cases h
    · cases h; exact zr32_tmod hx
  all_goals first | (cases h; exact zr32_toInt _) | cases h
theorem zBinL_rng {a : Nat} {x y c : Int} (hx : zr64 x) (h : zBinL a x y = some c) : zr64 c := by
  unfold zBinL at h
  split at h
  · cases h; exact zr64_w _
  · cases h; exact zr64_w _
  · cases h; exact zr64_w _
  · split at h
    · cases h
    · cases h; exact zr64_w _
  · split at h
    · cases h
    · cases h; exact zr64_tmod hx
  · cases h
