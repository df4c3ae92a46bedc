/-! bits, sums, and what is told: the data between the class and the reference -/
theorem zn_bv (n : Nat) : (Int32.ofInt (n : Int)).toBitVec = BitVec.ofNat 32 n := by
  simp
theorem zn_toInt {b : Int32} {n : Nat} (hn : n < 2147483648) (h : b.toBitVec = BitVec.ofNat 32 n) : b.toInt = n := by
  rw [← Int32.toInt_toBitVec, h, BitVec.toInt_eq_toNat_cond]
  simp
  omega
theorem zAnd_n {n m : Nat} (hn : n < 2147483648) : zAnd n m = ((n &&& m : Nat) : Int) := by
  unfold zAnd
  apply zn_toInt
  · exact Nat.lt_of_le_of_lt Nat.and_le_left hn
  · rw [Int32.toBitVec_and, zn_bv, zn_bv]
    exact (BitVec.ofNat_and ..).symm
theorem zOr_n {n m : Nat} (hn : n < 2147483648) (hm : m < 2147483648) : zOr n m = ((n ||| m : Nat) : Int) := by
  unfold zOr
  apply zn_toInt
  · exact Nat.or_lt_two_pow (n := 31) hn hm
  · rw [Int32.toBitVec_or, zn_bv, zn_bv]
    exact (BitVec.ofNat_or ..).symm
theorem zXor_n {n m : Nat} (hn : n < 2147483648) (hm : m < 2147483648) : zXor n m = ((n ^^^ m : Nat) : Int) := by
  unfold zXor
  apply zn_toInt
  · exact Nat.xor_lt_two_pow (n := 31) hn hm
  · rw [Int32.toBitVec_xor, zn_bv, zn_bv]
    exact (BitVec.ofNat_xor ..).symm
theorem zk_sh : ∀ k : Nat, k < 32 → ((Int32.ofInt (k : Int) &&& 31).toBitVec.smod 32) = BitVec.ofNat 32 k := by decide +kernel
theorem zShr_n {n k : Nat} (hn : n < 2147483648) (hk : k < 32) : zShr n k = ((n >>> k : Nat) : Int) := by
  unfold zShr
  apply zn_toInt
  · exact Nat.lt_of_le_of_lt (Nat.shiftRight_le ..) hn
  · rw [Int32.toBitVec_shiftRight, zk_sh k hk, zn_bv, BitVec.sshiftRight_eq', BitVec.sshiftRight_eq_of_msb_false]
    · apply BitVec.eq_of_toNat_eq
      simp
      rw [Nat.mod_eq_of_lt (show n < 4294967296 by omega), Nat.mod_eq_of_lt (show k < 4294967296 by omega), Nat.mod_eq_of_lt]
      exact Nat.lt_of_le_of_lt (Nat.shiftRight_le ..) (by omega)
    · rw [BitVec.msb_eq_decide]
      simp
      omega
theorem zShl_n {k : Nat} (hk : k < 31) : zShl 1 k = ((2 ^ k : Nat) : Int) := by
  revert k
  decide +kernel
theorem zb_n {n k : Nat} (hn : n < 2147483648) (hk : k < 32) : zAnd (zShr n k) 1 = if n.testBit k then 1 else 0 := by
  rw [zShr_n hn hk, show (1 : Int) = ((1 : Nat) : Int) from rfl, zAnd_n (Nat.lt_of_le_of_lt (Nat.shiftRight_le ..) hn)]
  rw [Nat.testBit_eq_decide_div_mod_eq, Nat.and_one_is_mod, Nat.shiftRight_eq_div_pow]
  rcases Nat.mod_two_eq_zero_or_one (n / 2 ^ k) with e | e <;> simp [e]
/-- bit p of x -/
abbrev zb (x p : Int) : Int := zAnd (zShr x p) 1
theorem zAnd1_01 (x : Int) : zAnd x 1 = 0 ∨ zAnd x 1 = 1 := by
  unfold zAnd
  have e : ((Int32.ofInt x &&& Int32.ofInt 1).toBitVec) = BitVec.ofNat 32 ((Int32.ofInt x).toBitVec.toNat % 2) := by
    rw [Int32.toBitVec_and]
    apply BitVec.eq_of_toNat_eq
    rw [BitVec.toNat_and, show (Int32.ofInt 1).toBitVec.toNat = 1 from rfl, Nat.and_one_is_mod, BitVec.toNat_ofNat]
    omega
  have : (Int32.ofInt x).toBitVec.toNat % 2 < 2 := Nat.mod_lt _ (by decide)
  rw [zn_toInt (by omega) e]
  omega
theorem zb01 (x p : Int) : zb x p = 0 ∨ zb x p = 1 := zAnd1_01 _
theorem zb_I {x p : Int} (hx : 0 ≤ x) (hx' : x < 2147483648) (hp : 0 ≤ p) (hp' : p < 32) : zb x p = if x.toNat.testBit p.toNat then 1 else 0 := by
  have := zb_n (n := x.toNat) (k := p.toNat) (by omega) (by omega)
  rw [Int.toNat_of_nonneg hx, Int.toNat_of_nonneg hp] at this
  exact this
theorem zb_hi {x p : Int} {n : Nat} (hx : 0 ≤ x) (hx' : x < 2 ^ n) (hn : n ≤ 31) (hp : (n : Int) ≤ p) (hp' : p < 32) : zb x p = 0 := by
  have h31 : (2 : Int) ^ n ≤ 2 ^ 31 := by
    have := Nat.pow_le_pow_right (n := 2) (by decide) hn
    exact_mod_cast this
  have h31' : (2 : Int) ^ 31 = 2147483648 := by decide
  rw [zb_I hx (by omega) (by omega) hp', if_neg]
  rw [Bool.not_eq_true]
  apply Nat.testBit_lt_two_pow
  have h2 : x.toNat < 2 ^ n := by
    have : ((x.toNat : Nat) : Int) < ((2 ^ n : Nat) : Int) := by
      rw [Int.toNat_of_nonneg hx]
      exact_mod_cast hx'
    exact_mod_cast this
  exact Nat.lt_of_lt_of_le h2 (Nat.pow_le_pow_right (by decide) (by omega))
theorem zb_or {x d e : Int} (hx : 0 ≤ x) (hx' : x < 2147483648) (hd : 0 ≤ d) (hd' : d < 31) (he : 0 ≤ e) (he' : e < 31) : zb (zOr x (zShl 1 d)) e = if e = d then 1 else zb x e := by
  have h1 : zShl 1 d = ((2 ^ d.toNat : Nat) : Int) := by
    have := zShl_n (k := d.toNat) (by omega)
    rwa [Int.toNat_of_nonneg hd] at this
  have hp : 2 ^ d.toNat < 2147483648 := by
    have := Nat.pow_lt_pow_right (a := 2) (by decide) (show d.toNat < 31 by omega)
    exact this
  have h2 : zOr x (zShl 1 d) = ((x.toNat ||| 2 ^ d.toNat : Nat) : Int) := by
    rw [h1]
    have := zOr_n (n := x.toNat) (m := 2 ^ d.toNat) (by omega) hp
    rwa [Int.toNat_of_nonneg hx] at this
  have hb : x.toNat ||| 2 ^ d.toNat < 2147483648 := Nat.or_lt_two_pow (n := 31) (by omega) hp
  rw [h2]
  have := zb_n (n := x.toNat ||| 2 ^ d.toNat) (k := e.toNat) hb (by omega)
  rw [Int.toNat_of_nonneg he] at this
  rw [show zb (((x.toNat ||| 2 ^ d.toNat : Nat)) : Int) e = _ from this, Nat.testBit_or, Nat.testBit_two_pow, zb_I hx hx' he (by omega)]
  by_cases q : e = d
  · subst q
    simp
  · rw [if_neg q]
    have : ¬ d.toNat = e.toNat := by omega
    simp [this]
theorem zOr_r {x d : Int} {n : Nat} (hn : n ≤ 31) (hx : 0 ≤ x) (hx' : x < 2 ^ n) (hd : 0 ≤ d) (hd' : d < n) : 0 ≤ zOr x (zShl 1 d) ∧ zOr x (zShl 1 d) < 2 ^ n := by
  have h31 : (2 : Nat) ^ n ≤ 2 ^ 31 := Nat.pow_le_pow_right (n := 2) (by decide) hn
  have h1 : zShl 1 d = ((2 ^ d.toNat : Nat) : Int) := by
    have := zShl_n (k := d.toNat) (by omega)
    rwa [Int.toNat_of_nonneg hd] at this
  have hp : 2 ^ d.toNat < 2 ^ n := Nat.pow_lt_pow_right (a := 2) (by decide) (show d.toNat < n by omega)
  have hxn : x.toNat < 2 ^ n := by
    have : ((x.toNat : Nat) : Int) < ((2 ^ n : Nat) : Int) := by
      rw [Int.toNat_of_nonneg hx]
      exact_mod_cast hx'
    exact_mod_cast this
  have h2 : zOr x (zShl 1 d) = ((x.toNat ||| 2 ^ d.toNat : Nat) : Int) := by
    rw [h1]
    have := zOr_n (n := x.toNat) (m := 2 ^ d.toNat) (by omega) (by omega)
    rwa [Int.toNat_of_nonneg hx] at this
  have hb : x.toNat ||| 2 ^ d.toNat < 2 ^ n := Nat.or_lt_two_pow hxn hp
  rw [h2]
  refine ⟨by omega, ?_⟩
  exact_mod_cast hb
theorem zShl_p {d : Int} (hd : 0 ≤ d) (hd' : d < 31) : zShl 1 d = 2 ^ d.toNat := by
  have := zShl_n (k := d.toNat) (by omega)
  rw [Int.toNat_of_nonneg hd] at this
  rw [this]
  norm_cast
/-- sums -/
def mSum (f : Int → Int) : Nat → Int
  | 0 => 0
  | n + 1 => mSum f n + f n
theorem mSum_congr {f g : Int → Int} : ∀ {n : Nat}, (∀ k : Nat, k < n → f k = g k) → mSum f n = mSum g n
  | 0, _ => rfl
  | n + 1, h => by
    rw [mSum, mSum, mSum_congr (fun k hk => h k (by omega)), h n (by omega)]
theorem mSum_le {f : Int → Int} {b : Int} : ∀ {n : Nat}, (∀ k : Nat, k < n → 0 ≤ f k ∧ f k ≤ b) → 0 ≤ mSum f n ∧ mSum f n ≤ b * n
  | 0, _ => by simp [mSum]
  | n + 1, h => by
    have h1 := mSum_le (n := n) (fun k hk => h k (by omega))
    have h2 := h n (by omega)
    rw [mSum]
    refine ⟨by omega, ?_⟩
    rw [show b * ((n + 1 : Nat) : Int) = b * n + b by rw [show ((n + 1 : Nat) : Int) = (n : Int) + 1 by omega, Int.mul_add, Int.mul_one]]
    omega
theorem mSum_mono {f : Int → Int} {n : Nat} : ∀ {m : Nat}, n ≤ m → (∀ k : Nat, k < m → 0 ≤ f k) → mSum f n ≤ mSum f m
  | 0, h, _ => by
    have : n = 0 := by omega
    subst this
    exact Int.le_refl _
  | m + 1, h, p => by
    by_cases e : n = m + 1
    · subst e
      exact Int.le_refl _
    · have h1 := mSum_mono (m := m) (n := n) (by omega) (fun k hk => p k (by omega))
      have h2 := p m (by omega)
      rw [mSum]
      omega
theorem mSum_ext {f : Int → Int} {n : Nat} : ∀ {m : Nat}, n ≤ m → (∀ k : Nat, n ≤ k → k < m → f k = 0) → mSum f m = mSum f n
  | 0, h, _ => by
    have : n = 0 := by omega
    subst this
    rfl
  | m + 1, h, p => by
    by_cases e : n = m + 1
    · subst e
      rfl
    · rw [mSum, mSum_ext (m := m) (n := n) (by omega) (fun k h1 h2 => p k h1 (by omega)), p m (by omega) (by omega)]
      omega
def zMx (a b : Int) : Int := if a < b then b else a
/-- the greatest of the f's whose bit is set, 0 if none -/
def mMx (f g : Int → Int) : Nat → Int
  | 0 => 0
  | n + 1 => if g n = 1 then zMx (mMx f g n) (f n) else mMx f g n
/-- the greatest of the ends whose bit is set; -1 if one is -1 -/
def mDn (E g : Int → Int) : Nat → Int
  | 0 => 0
  | n + 1 => if mDn E g n = -1 then -1 else if g n = 1 then (if E n = -1 then -1 else zMx (mDn E g n) (E n)) else mDn E g n
/-- ROAD DATA: 0: people, deeds, boards, nuts, causes, load, stops, loses, soft, every; 1 strong; 2..6 minutes, out, hands, strength, needs of deeds; 7 bears; 8 boards; 9 nuts; 10..13 causes; 14 rain -/
def mStr (r : zH) (x : Int) : Int := mSum (fun p => zb x p * r 1 p) (r 0 0).toNat
def mOnes (x : Int) : Int := mSum (fun p => zb x p) 12
abbrev mCan (r : zH) (x d : Int) : Prop := mOnes x = r 4 d ∧ r 5 d ≤ mStr r x
def mRn (r : zH) (a b : Int) : Int := if a < 0 ∨ b < a then 0 else mSum (r 14) (if 241 < b then 241 else b).toNat - mSum (r 14) (if 241 < a then 241 else a).toNat
def mWm (r : zH) (d a b : Int) : Int := if r 3 d = 0 then 0 else mRn r a b
def mBeg (r : zH) (E F : Int → Int) (d x : Int) : Int := if mDn E (zb (r 6 d)) d.toNat = -1 then -1 else zMx (mDn E (zb (r 6 d)) d.toNat) (mMx F (zb x) (r 0 0).toNat)
/-- a and those A's whose bit is set, as bits -/
def mOrs (a : Int) (g A : Int → Int) : Nat → Int
  | 0 => a
  | k + 1 => if g k = 1 then zOr (mOrs a g A k) (A k) else mOrs a g A k
/-- of the first n deeds: all deeds that each needs; the longest chain -/
def mAh (r : zH) : Nat → Int → Int
  | 0 => fun _ => 0
  | n + 1 => fun d => if d = n then mOrs (r 6 n) (zb (r 6 n)) (mAh r n) n else mAh r n d
def mCh (r : zH) : Nat → Int → Int
  | 0 => fun _ => 0
  | n + 1 => fun d => if d = n then mMx (mCh r n) (zb (r 6 n)) n + r 2 n else mCh r n d
/-- the data of a road are in their bounds -/
def wRoad (r : zH) : Prop := (0 ≤ r 0 0 ∧ r 0 0 ≤ 4) ∧
  (0 ≤ r 0 1 ∧ r 0 1 ≤ 12) ∧
  (0 ≤ r 0 2 ∧ r 0 2 ≤ 6) ∧
  (0 ≤ r 0 3 ∧ r 0 3 ≤ 8) ∧
  (0 ≤ r 0 4 ∧ r 0 4 ≤ 4) ∧
  (1 ≤ r 0 5 ∧ r 0 5 ≤ 99) ∧
  (0 ≤ r 0 6 ∧ r 0 6 ≤ 16) ∧
  (0 ≤ r 0 7 ∧ r 0 7 ≤ 16) ∧
  (0 ≤ r 0 8 ∧ r 0 8 ≤ 99) ∧
  (1 ≤ r 0 9 ∧ r 0 9 ≤ 9) ∧
  (∀ k : Int, 0 ≤ k → k < r 0 0 → 1 ≤ r 1 k ∧ r 1 k ≤ 9) ∧
  (∀ k : Int, 0 ≤ k → k < r 0 1 → (1 ≤ r 2 k ∧ r 2 k ≤ 30) ∧ (0 ≤ r 3 k ∧ r 3 k ≤ 1) ∧ (1 ≤ r 4 k ∧ r 4 k ≤ 2) ∧ (0 ≤ r 5 k ∧ r 5 k ≤ 18) ∧ (0 ≤ r 6 k ∧ r 6 k < 2 ^ k.toNat)) ∧
  (∀ k : Int, 0 ≤ k → k < 60 → 0 ≤ r 7 k ∧ r 7 k ≤ 20) ∧
  (∀ k : Int, 0 ≤ k → k < r 0 2 → 1 ≤ r 8 k ∧ r 8 k ≤ 9) ∧
  (∀ k : Int, 0 ≤ k → k < r 0 3 → 0 ≤ r 9 k ∧ r 9 k ≤ 15) ∧
  (∀ k : Int, 0 ≤ k → k < r 0 4 → (1 ≤ r 10 k ∧ r 10 k ≤ 16) ∧ (0 ≤ r 11 k ∧ r 11 k ≤ 16) ∧ (0 ≤ r 12 k ∧ r 12 k ≤ 16) ∧ (0 ≤ r 13 k ∧ r 13 k ≤ 16)) ∧
  (∀ k : Int, 0 ≤ k → k < 241 → 0 ≤ r 14 k ∧ r 14 k ≤ 1)
theorem wr_p {r : zH} (q : wRoad r) : 0 ≤ r 0 0 ∧ r 0 0 ≤ 4 := q.1
theorem wr_d {r : zH} (q : wRoad r) : 0 ≤ r 0 1 ∧ r 0 1 ≤ 12 := q.2.1
theorem wr_b {r : zH} (q : wRoad r) : 0 ≤ r 0 2 ∧ r 0 2 ≤ 6 := q.2.2.1
theorem wr_n {r : zH} (q : wRoad r) : 0 ≤ r 0 3 ∧ r 0 3 ≤ 8 := q.2.2.2.1
theorem wr_c {r : zH} (q : wRoad r) : 0 ≤ r 0 4 ∧ r 0 4 ≤ 4 := q.2.2.2.2.1
theorem wr_load {r : zH} (q : wRoad r) : 1 ≤ r 0 5 ∧ r 0 5 ≤ 99 := q.2.2.2.2.2.1
theorem wr_stops {r : zH} (q : wRoad r) : 0 ≤ r 0 6 ∧ r 0 6 ≤ 16 := q.2.2.2.2.2.2.1
theorem wr_loses {r : zH} (q : wRoad r) : 0 ≤ r 0 7 ∧ r 0 7 ≤ 16 := q.2.2.2.2.2.2.2.1
theorem wr_soft {r : zH} (q : wRoad r) : 0 ≤ r 0 8 ∧ r 0 8 ≤ 99 := q.2.2.2.2.2.2.2.2.1
theorem wr_every {r : zH} (q : wRoad r) : 1 ≤ r 0 9 ∧ r 0 9 ≤ 9 := q.2.2.2.2.2.2.2.2.2.1
theorem wr_strong {r : zH} (q : wRoad r) : ∀ k : Int, 0 ≤ k → k < r 0 0 → 1 ≤ r 1 k ∧ r 1 k ≤ 9 := q.2.2.2.2.2.2.2.2.2.2.1
theorem wr_deed {r : zH} (q : wRoad r) : ∀ k : Int, 0 ≤ k → k < r 0 1 → (1 ≤ r 2 k ∧ r 2 k ≤ 30) ∧ (0 ≤ r 3 k ∧ r 3 k ≤ 1) ∧ (1 ≤ r 4 k ∧ r 4 k ≤ 2) ∧ (0 ≤ r 5 k ∧ r 5 k ≤ 18) ∧ (0 ≤ r 6 k ∧ r 6 k < 2 ^ k.toNat) := q.2.2.2.2.2.2.2.2.2.2.2.1
theorem wr_bears {r : zH} (q : wRoad r) : ∀ k : Int, 0 ≤ k → k < 60 → 0 ≤ r 7 k ∧ r 7 k ≤ 20 := q.2.2.2.2.2.2.2.2.2.2.2.2.1
theorem wr_board {r : zH} (q : wRoad r) : ∀ k : Int, 0 ≤ k → k < r 0 2 → 1 ≤ r 8 k ∧ r 8 k ≤ 9 := q.2.2.2.2.2.2.2.2.2.2.2.2.2.1
theorem wr_nut {r : zH} (q : wRoad r) : ∀ k : Int, 0 ≤ k → k < r 0 3 → 0 ≤ r 9 k ∧ r 9 k ≤ 15 := q.2.2.2.2.2.2.2.2.2.2.2.2.2.2.1
theorem wr_cause {r : zH} (q : wRoad r) : ∀ k : Int, 0 ≤ k → k < r 0 4 → (1 ≤ r 10 k ∧ r 10 k ≤ 16) ∧ (0 ≤ r 11 k ∧ r 11 k ≤ 16) ∧ (0 ≤ r 12 k ∧ r 12 k ≤ 16) ∧ (0 ≤ r 13 k ∧ r 13 k ≤ 16) := q.2.2.2.2.2.2.2.2.2.2.2.2.2.2.2.1
theorem wr_rain {r : zH} (q : wRoad r) : ∀ k : Int, 0 ≤ k → k < 241 → 0 ≤ r 14 k ∧ r 14 k ≤ 1 := q.2.2.2.2.2.2.2.2.2.2.2.2.2.2.2.2
/-- the class holds a road -/
def cRoad (t : Int) (h r : zH) : Prop := (h (t + 1) 0 = r 0 0) ∧
  (h (t + 1) 1 = r 0 1) ∧
  (h (t + 1) 5 = r 0 2) ∧
  (h (t + 1) 7 = r 0 3) ∧
  (h (t + 1) 9 = r 0 4) ∧
  (h t 8 = r 0 5) ∧
  (h t 9 = r 0 6) ∧
  (h t 10 = r 0 7) ∧
  (h t 11 = r 0 8) ∧
  (h t 12 = r 0 9) ∧
  (∀ k : Int, 0 ≤ k → k < r 0 0 → h (t + 5) k = r 1 k) ∧
  (∀ k : Int, 0 ≤ k → k < r 0 1 → h (t + 8) k = r 2 k ∧ h (t + 9) k = r 3 k ∧ h (t + 10) k = r 4 k ∧ h (t + 11) k = r 5 k ∧ h (t + 12) k = r 6 k ∧ h (t + 13) k = mAh r (r 0 1).toNat k ∧ h (t + 14) k = mCh r (r 0 1).toNat k) ∧
  (∀ k : Int, 0 ≤ k → k < 60 → h (t + 6) k = r 7 k) ∧
  (∀ k : Int, 0 ≤ k → k < r 0 2 → h (t + 3) k = r 8 k) ∧
  (∀ k : Int, 0 ≤ k → k < r 0 3 → h (t + 4) k = r 9 k) ∧
  (∀ k : Int, 0 ≤ k → k < r 0 4 → h (t + 16) k = r 10 k ∧ h (t + 17) k = r 11 k ∧ h (t + 18) k = r 12 k ∧ h (t + 19) k = r 13 k) ∧
  (∀ k : Int, 0 ≤ k → k ≤ 241 → h (t + 2) k = mSum (r 14) k.toNat)
theorem cr_p {t : Int} {h r : zH} (q : cRoad t h r) : h (t + 1) 0 = r 0 0 := q.1
theorem cr_d {t : Int} {h r : zH} (q : cRoad t h r) : h (t + 1) 1 = r 0 1 := q.2.1
theorem cr_b {t : Int} {h r : zH} (q : cRoad t h r) : h (t + 1) 5 = r 0 2 := q.2.2.1
theorem cr_n {t : Int} {h r : zH} (q : cRoad t h r) : h (t + 1) 7 = r 0 3 := q.2.2.2.1
theorem cr_c {t : Int} {h r : zH} (q : cRoad t h r) : h (t + 1) 9 = r 0 4 := q.2.2.2.2.1
theorem cr_load {t : Int} {h r : zH} (q : cRoad t h r) : h t 8 = r 0 5 := q.2.2.2.2.2.1
theorem cr_stops {t : Int} {h r : zH} (q : cRoad t h r) : h t 9 = r 0 6 := q.2.2.2.2.2.2.1
theorem cr_loses {t : Int} {h r : zH} (q : cRoad t h r) : h t 10 = r 0 7 := q.2.2.2.2.2.2.2.1
theorem cr_soft {t : Int} {h r : zH} (q : cRoad t h r) : h t 11 = r 0 8 := q.2.2.2.2.2.2.2.2.1
theorem cr_every {t : Int} {h r : zH} (q : cRoad t h r) : h t 12 = r 0 9 := q.2.2.2.2.2.2.2.2.2.1
theorem cr_strong {t : Int} {h r : zH} (q : cRoad t h r) : ∀ k : Int, 0 ≤ k → k < r 0 0 → h (t + 5) k = r 1 k := q.2.2.2.2.2.2.2.2.2.2.1
theorem cr_deed {t : Int} {h r : zH} (q : cRoad t h r) : ∀ k : Int, 0 ≤ k → k < r 0 1 → h (t + 8) k = r 2 k ∧ h (t + 9) k = r 3 k ∧ h (t + 10) k = r 4 k ∧ h (t + 11) k = r 5 k ∧ h (t + 12) k = r 6 k ∧ h (t + 13) k = mAh r (r 0 1).toNat k ∧ h (t + 14) k = mCh r (r 0 1).toNat k := q.2.2.2.2.2.2.2.2.2.2.2.1
theorem cr_bears {t : Int} {h r : zH} (q : cRoad t h r) : ∀ k : Int, 0 ≤ k → k < 60 → h (t + 6) k = r 7 k := q.2.2.2.2.2.2.2.2.2.2.2.2.1
theorem cr_board {t : Int} {h r : zH} (q : cRoad t h r) : ∀ k : Int, 0 ≤ k → k < r 0 2 → h (t + 3) k = r 8 k := q.2.2.2.2.2.2.2.2.2.2.2.2.2.1
theorem cr_nut {t : Int} {h r : zH} (q : cRoad t h r) : ∀ k : Int, 0 ≤ k → k < r 0 3 → h (t + 4) k = r 9 k := q.2.2.2.2.2.2.2.2.2.2.2.2.2.2.1
theorem cr_cause {t : Int} {h r : zH} (q : cRoad t h r) : ∀ k : Int, 0 ≤ k → k < r 0 4 → h (t + 16) k = r 10 k ∧ h (t + 17) k = r 11 k ∧ h (t + 18) k = r 12 k ∧ h (t + 19) k = r 13 k := q.2.2.2.2.2.2.2.2.2.2.2.2.2.2.2.1
theorem cr_rain {t : Int} {h r : zH} (q : cRoad t h r) : ∀ k : Int, 0 ≤ k → k ≤ 241 → h (t + 2) k = mSum (r 14) k.toNat := q.2.2.2.2.2.2.2.2.2.2.2.2.2.2.2.2
/-- the reference holds a road -/
def mRoad (h r : zH) : Prop := (h 113 32 = r 0 0) ∧
  (h 113 33 = r 0 1) ∧
  (h 113 34 = r 0 2) ∧
  (h 113 35 = r 0 3) ∧
  (h 113 36 = r 0 4) ∧
  (h 131 0 = r 0 5 ∧ h 131 1 = r 0 6 ∧ h 131 2 = r 0 7 ∧ h 131 3 = r 0 8 ∧ h 131 4 = r 0 9) ∧
  (∀ k : Int, 0 ≤ k → k < r 0 0 → h 122 k = r 1 k) ∧
  (∀ k : Int, 0 ≤ k → k < r 0 1 → h 123 (5 * k) = r 2 k ∧ h 123 (5 * k + 1) = r 3 k ∧ h 123 (5 * k + 2) = r 4 k ∧ h 123 (5 * k + 3) = r 5 k ∧ h 123 (5 * k + 4) = r 6 k) ∧
  (∀ k : Int, 0 ≤ k → k < 60 → h 124 k = r 7 k) ∧
  (∀ k : Int, 0 ≤ k → k < r 0 2 → h 125 k = r 8 k) ∧
  (∀ k : Int, 0 ≤ k → k < r 0 3 → h 126 k = r 9 k) ∧
  (∀ k : Int, 0 ≤ k → k < r 0 4 → h 127 (4 * k) = r 10 k ∧ h 127 (4 * k + 1) = r 11 k ∧ h 127 (4 * k + 2) = r 12 k ∧ h 127 (4 * k + 3) = r 13 k) ∧
  (∀ k : Int, 0 ≤ k → k < 241 → h 129 k = r 14 k)
theorem mr_p {h r : zH} (q : mRoad h r) : h 113 32 = r 0 0 := q.1
theorem mr_d {h r : zH} (q : mRoad h r) : h 113 33 = r 0 1 := q.2.1
theorem mr_b {h r : zH} (q : mRoad h r) : h 113 34 = r 0 2 := q.2.2.1
theorem mr_n {h r : zH} (q : mRoad h r) : h 113 35 = r 0 3 := q.2.2.2.1
theorem mr_c {h r : zH} (q : mRoad h r) : h 113 36 = r 0 4 := q.2.2.2.2.1
theorem mr_told {h r : zH} (q : mRoad h r) : h 131 0 = r 0 5 ∧ h 131 1 = r 0 6 ∧ h 131 2 = r 0 7 ∧ h 131 3 = r 0 8 ∧ h 131 4 = r 0 9 := q.2.2.2.2.2.1
theorem mr_strong {h r : zH} (q : mRoad h r) : ∀ k : Int, 0 ≤ k → k < r 0 0 → h 122 k = r 1 k := q.2.2.2.2.2.2.1
theorem mr_deed {h r : zH} (q : mRoad h r) : ∀ k : Int, 0 ≤ k → k < r 0 1 → h 123 (5 * k) = r 2 k ∧ h 123 (5 * k + 1) = r 3 k ∧ h 123 (5 * k + 2) = r 4 k ∧ h 123 (5 * k + 3) = r 5 k ∧ h 123 (5 * k + 4) = r 6 k := q.2.2.2.2.2.2.2.1
theorem mr_bears {h r : zH} (q : mRoad h r) : ∀ k : Int, 0 ≤ k → k < 60 → h 124 k = r 7 k := q.2.2.2.2.2.2.2.2.1
theorem mr_board {h r : zH} (q : mRoad h r) : ∀ k : Int, 0 ≤ k → k < r 0 2 → h 125 k = r 8 k := q.2.2.2.2.2.2.2.2.2.1
theorem mr_nut {h r : zH} (q : mRoad h r) : ∀ k : Int, 0 ≤ k → k < r 0 3 → h 126 k = r 9 k := q.2.2.2.2.2.2.2.2.2.2.1
theorem mr_cause {h r : zH} (q : mRoad h r) : ∀ k : Int, 0 ≤ k → k < r 0 4 → h 127 (4 * k) = r 10 k ∧ h 127 (4 * k + 1) = r 11 k ∧ h 127 (4 * k + 2) = r 12 k ∧ h 127 (4 * k + 3) = r 13 k := q.2.2.2.2.2.2.2.2.2.2.2.1
theorem mr_rain {h r : zH} (q : mRoad h r) : ∀ k : Int, 0 ≤ k → k < 241 → h 129 k = r 14 k := q.2.2.2.2.2.2.2.2.2.2.2.2
