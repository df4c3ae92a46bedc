/-! refusals; the jack -/
theorem s_61 {d c : Nat} {h : zH} {R : Int → Nat → zH → Prop} {X : Nat → Nat → zH → Prop} {x lo hi : Int} (k1 : lo ≤ x → x ≤ hi → R 0 c h) (k0 : ¬ (lo ≤ x ∧ x ≤ hi) → X 1 (c + 1) (hw h 1 16 (w32 (h 1 16 + 1)))) : zCl (d + 1) 61 [(2, 1), (0, x), (0, lo), (0, hi)] c h R X :=
  b_61 ⟨fun q => b_62 ⟨fun q1 => absurd rfl q1, fun _ => k0 (by omega)⟩, fun q => ⟨fun q1 => b_62 ⟨fun q2 => absurd rfl q2, fun _ => k0 (by omega)⟩, fun q1 => b_62 ⟨fun _ => k1 q q1, fun q2 => absurd q2 (by decide)⟩⟩⟩
theorem s_117 {d c : Nat} {h : zH} {R : Int → Nat → zH → Prop} {X : Nat → Nat → zH → Prop} {x n : Int} (k1 : 0 ≤ x → x < n → R 0 c h) (k0 : ¬ (0 ≤ x ∧ x < n) → X 0 (c + 1) (hw h 1 15 (w32 (h 1 15 + 1)))) : zCl d 117 [(2, 1), (0, x), (0, n)] c h R X :=
  b_117 ⟨fun q => k0 (by omega), fun q => ⟨fun q1 => k1 q q1, fun q1 => k0 (by omega)⟩⟩
theorem s_254 {d c : Nat} {h : zH} {R : Int → Nat → zH → Prop} {X : Nat → Nat → zH → Prop} {x lo hi : Int} (k1 : lo ≤ x ∧ x ≤ hi → R 1 c h) (k0 : ¬ (lo ≤ x ∧ x ≤ hi) → R 0 c h) : zCl d 254 [(0, x), (0, lo), (0, hi)] c h R X :=
  b_254 ⟨fun q => k0 (by omega), fun q => ⟨fun q1 => k0 (by omega), fun q1 => k1 ⟨q, q1⟩⟩⟩
theorem s_222 {d c : Nat} {h : zH} {R : Int → Nat → zH → Prop} {X : Nat → Nat → zH → Prop} {g co ki : Int} (h0 : h 113 0 = 0) (hk : 0 ≤ ki ∧ ki < 3) (hc : co ≠ 0) (k1 : g ≠ 0 → R 1 c h) (k0 : g = 0 → R 0 c (hw (hw h 113 0 co) 114 ki (w32 (h 114 ki + 1)))) : zCl d 222 [(2, 113), (0, g), (0, co), (0, ki)] c h R X :=
  b_222 ⟨fun q => ⟨fun q1 => absurd h0 q1, fun _ => k1 q⟩, fun q => ⟨fun q1 => absurd h0 q1, fun _ => ⟨hk, hk, fun _ => k0 q, fun q1 => absurd q1 hc⟩⟩⟩
def mBrd (r : zH) (x : Int) : Int := 1 + mSum (fun p => zb x p * r 8 p) (r 0 2).toNat
def mSk (r : zH) (y x : Int) : Int := if 0 < Int.tdiv (r 0 5) (mBrd r x) - r 7 y then Int.tdiv (r 0 5) (mBrd r x) - r 7 y else 0
def mSink (r : zH) (y x m : Int) : Int := m * mSk r y x
theorem mBrd_b {r : zH} (wr : wRoad r) (x : Int) {n : Nat} (hn : n ≤ (r 0 2).toNat) : 0 ≤ mSum (fun p => zb x p * r 8 p) n ∧ mSum (fun p => zb x p * r 8 p) n ≤ 9 * n := by
  apply mSum_le
  intro k hk
  have hp := wr_b wr
  have h1 := wr_board wr k (by omega) (by omega)
  rcases zb01 x k with e | e <;> simp only [e] <;> omega
theorem mBrd_r {r : zH} (wr : wRoad r) (x : Int) : 1 ≤ mBrd r x ∧ mBrd r x ≤ 55 := by
  have := mBrd_b wr x (Nat.le_refl _)
  have hp := wr_b wr
  unfold mBrd
  omega
theorem mTd_r {a b : Int} (ha : 0 ≤ a) (hb : 1 ≤ b) : 0 ≤ Int.tdiv a b ∧ Int.tdiv a b ≤ a := by
  rw [Int.tdiv_eq_ediv_of_nonneg ha]
  exact ⟨Int.ediv_nonneg ha (by omega), Int.ediv_le_self b ha⟩
theorem mSk_r {r : zH} (wr : wRoad r) {y : Int} (x : Int) (hy : 0 ≤ y ∧ y < 60) : 0 ≤ mSk r y x ∧ mSk r y x ≤ 99 := by
  have h1 := mBrd_r wr x
  have h2 := wr_load wr
  have h3 := mTd_r (show 0 ≤ r 0 5 by omega) h1.1
  have h4 := wr_bears wr y hy.1 hy.2
  unfold mSk
  split <;> omega
theorem mul_r {a b A B : Int} (h1 : 0 ≤ a) (h2 : a ≤ A) (h3 : 0 ≤ b) (h4 : b ≤ B) : 0 ≤ a * b ∧ a * b ≤ A * B :=
  ⟨Int.mul_nonneg h1 h3, Int.mul_le_mul h2 h4 h3 (by omega)⟩
theorem mSink_r {r : zH} (wr : wRoad r) {y m : Int} (x : Int) (hy : 0 ≤ y ∧ y < 60) (hm : 0 ≤ m ∧ m ≤ 240) : 0 ≤ mSink r y x m ∧ mSink r y x m ≤ 23760 := by
  have := mSk_r wr x hy
  exact mul_r hm.1 hm.2 this.1 this.2
theorem s_157 {d c : Nat} {h : zH} {R : Int → Nat → zH → Prop} {X : Nat → Nat → zH → Prop} {t y x m : Int} {r : zH} (ht : zIsR t) (cr : cRoad t h r) (wr : wRoad r) (hy : 0 ≤ y ∧ y < 60) (hm : 0 ≤ m ∧ m ≤ 240) (k : R (mSink r y x m) c h) : zCl (d + 1) 157 [(2, t), (0, y), (0, x), (0, m)] c h R X := by
  refine b_157 ht ?_
  have hp := wr_b wr
  refine zDown (W := fun n => zWp (d + 1) 157 6 [(2, t), (0, y), (0, x), (0, m), (0, 1 + mSum (fun p => zb x p * r 8 p) n), (0, (n : Int))] [] (zTS c h) (zQ 1 R X)) (r 0 2).toNat ?_ ?_ 0 (Nat.zero_le _)
  · have h1 := mBrd_r wr x
    have h2 := wr_load wr
    have h3 := mTd_r (show 0 ≤ r 0 5 by omega) h1.1
    have h4 := wr_bears wr y hy.1 hy.2
    have h5 := mSink_r wr x hy hm
    have e1 : (if 1 < mBrd r x then mBrd r x else 1) = mBrd r x := by split <;> omega
    refine b_157_6 ht ⟨fun _ => ?_, fun q => ?_⟩
    · show (if 1 < mBrd r x then mBrd r x else 1) ≠ 0 ∧ (0 ≤ y ∧ y < 60) ∧ R (w32 (m * (if 0 < w32 (w32 (Int.tdiv (h t 8) (if 1 < mBrd r x then mBrd r x else 1)) - h (t + 6) y) then w32 (w32 (Int.tdiv (h t 8) (if 1 < mBrd r x then mBrd r x else 1)) - h (t + 6) y) else 0))) c h
      rw [e1, cr_load cr, cr_bears cr y hy.1 hy.2, w32_e (x := Int.tdiv (r 0 5) (mBrd r x)) (by omega) (by omega), w32_e (x := Int.tdiv (r 0 5) (mBrd r x) - r 7 y) (by omega) (by omega)]
      refine ⟨by omega, hy, ?_⟩
      show R (w32 (mSink r y x m)) c h
      rw [w32_e (by omega) (by omega)]
      exact k
    · rw [cr_b cr] at q
      omega
  · intro n hn ih
    have hb := mBrd_b wr x (n := n) (by omega)
    have h1 := wr_board wr n (by omega) (by omega)
    refine b_157_6 ht ⟨fun q => ?_, fun _ => ⟨fun q => ?_, fun q => ⟨by omega, ?_⟩⟩⟩
    · rw [cr_b cr] at q
      omega
    · have e : zb x n = 0 := (zb01 x n).resolve_right q
      rw [mSum, e, Int.zero_mul, Int.add_zero] at ih
      rw [w32_s (by omega)]
      exact ih
    · have e : zb x n = 1 := q
      rw [mSum, e, Int.one_mul] at ih
      rw [w32_s (by omega), cr_board cr n (by omega) (by omega), w32_e (by omega) (by omega), Int.add_assoc]
      exact ih
theorem s_292 {d c : Nat} {h : zH} {R : Int → Nat → zH → Prop} {X : Nat → Nat → zH → Prop} {y x m : Int} {r : zH} (mr : mRoad h r) (wr : wRoad r) (hy : 0 ≤ y ∧ y < 60) (hm : 0 ≤ m ∧ m ≤ 240) (k : R (mSink r y x m) c h) : zCl (d + 1) 292 [(2, 113), (0, y), (0, x), (0, m)] c h R X := by
  have hp := wr_b wr
  have h1 := mBrd_r wr x
  have h2 := wr_load wr
  have h3 := mTd_r (show 0 ≤ r 0 5 by omega) h1.1
  have h4 := wr_bears wr y hy.1 hy.2
  have h5 := mSink_r wr x hy hm
  refine b_292 (b_293 ?_)
  refine zDown (W := fun n => zWp d 293 4 [(2, 113), (0, x), (0, 1 + mSum (fun p => zb x p * r 8 p) n), (0, (n : Int))] [] (zTS c h) (zQ 1 _ X)) (r 0 2).toNat ?_ ?_ 0 (Nat.zero_le _)
  · refine b_293_4 ⟨fun _ => ?_, fun q => ?_⟩
    · show mBrd r x ≠ 0 ∧ (0 ≤ y ∧ y < 60) ∧ (w32 (w32 (Int.tdiv (h 131 0) (mBrd r x)) - h 124 y) ≤ 0 → R 0 c h) ∧ (0 < w32 (w32 (Int.tdiv (h 131 0) (mBrd r x)) - h 124 y) → R (w32 (w32 (w32 (Int.tdiv (h 131 0) (mBrd r x)) - h 124 y) * m)) c h)
      rw [(mr_told mr).1, mr_bears mr y hy.1 hy.2, w32_e (x := Int.tdiv (r 0 5) (mBrd r x)) (by omega) (by omega), w32_e (x := Int.tdiv (r 0 5) (mBrd r x) - r 7 y) (by omega) (by omega)]
      refine ⟨by omega, hy, fun q => ?_, fun q => ?_⟩
      · have e : mSink r y x m = 0 := by
          unfold mSink mSk
          rw [if_neg (by omega), Int.mul_zero]
        rw [e] at k
        exact k
      · have e : (Int.tdiv (r 0 5) (mBrd r x) - r 7 y) * m = mSink r y x m := by
          unfold mSink mSk
          rw [if_pos q, Int.mul_comm]
        rw [e, w32_e (by omega) (by omega)]
        exact k
    · rw [mr_b mr] at q
      omega
  · intro n hn ih
    have hb := mBrd_b wr x (n := n) (by omega)
    have h1 := wr_board wr n (by omega) (by omega)
    refine b_293_4 ⟨fun q => ?_, fun _ => ⟨by omega, ?_⟩⟩
    · rw [mr_b mr] at q
      omega
    · have e1 : 0 ≤ zb x n * r 8 n ∧ zb x n * r 8 n ≤ 9 := by
        rcases zb01 x n with e | e <;> rw [e] <;> omega
      rw [w32_s (by omega), mr_board mr n (by omega) (by omega), w32_e (x := zb x n * r 8 n) (by omega) (by omega), w32_e (by omega) (by omega), Int.add_assoc]
      rw [mSum] at ih
      exact ih
/-- the fewest boards that hold: the first among the first n sets -/
def mUnd (r : zH) (y m z : Int) : Nat → Int
  | 0 => -1
  | n + 1 => if mSink r y n m ≤ z ∧ (mUnd r y m z n = -1 ∨ mOnes n < mOnes (mUnd r y m z n)) then n else mUnd r y m z n
theorem mUnd_r (r : zH) (y m z : Int) : ∀ n : Nat, mUnd r y m z n = -1 ∨ (0 ≤ mUnd r y m z n ∧ mUnd r y m z n < n)
  | 0 => by simp [mUnd]
  | n + 1 => by
    have := mUnd_r r y m z n
    rw [mUnd]
    split <;> omega
theorem mOnes6 : ∀ n : Nat, n < 64 → mOnes n ≤ 6 := by decide +kernel
theorem zShl_b {r : zH} (wr : wRoad r) : zShl 1 (r 0 2) = 2 ^ (r 0 2).toNat ∧ (2 : Int) ^ (r 0 2).toNat ≤ 64 ∧ 1 ≤ (2 : Int) ^ (r 0 2).toNat := by
  have hp := wr_b wr
  refine ⟨zShl_p hp.1 (by omega), ?_, ?_⟩
  · have : (2 : Nat) ^ (r 0 2).toNat ≤ 2 ^ 6 := Nat.pow_le_pow_right (by decide) (by omega)
    exact_mod_cast this
  · have : 0 < (2 : Nat) ^ (r 0 2).toNat := Nat.pow_pos (by decide)
    exact_mod_cast this
theorem s_159_36 {d c : Nat} {h : zH} {R : Int → Nat → zH → Prop} {X : Nat → Nat → zH → Prop} {t y m z : Int} {r : zH} (ht : zIsR t) (h5 : h 1 5 = t) (cr : cRoad t h r) (wr : wRoad r) (hy : 0 ≤ y ∧ y < 60) (hm : 0 ≤ m ∧ m ≤ 240) (k : R (mUnd r y m z ((2 : Int) ^ (r 0 2).toNat).toNat) c h) : zWp (d + 2) 159 36 [(2, 1), (0, y), (0, m), (0, z), (0, (-1)), (0, 7), (0, 0), (9, 0)] [] (zTS c h) (zQ 1 R X) := by
  have hb := zShl_b wr
  refine zDown (W := fun n => zWp (d + 2) 159 36 [(2, 1), (0, y), (0, m), (0, z), (0, mUnd r y m z n), (0, if mUnd r y m z n = -1 then 7 else mOnes (mUnd r y m z n)), (0, (n : Int)), (9, 0)] [] (zTS c h) (zQ 1 R X)) ((2 : Int) ^ (r 0 2).toNat).toNat ?_ ?_ 0 (Nat.zero_le _)
  · refine b_159_36 ht ⟨h5, fun _ => k, fun q => ?_⟩
    rw [cr_b cr, hb.1] at q
    omega
  · intro n hn ih
    have hu := mUnd_r r y m z n
    have ho := mOnes6 n (by omega)
    refine b_159_36 ht ⟨h5, fun q => ?_, fun _ => s_24 (by omega) (by omega) ⟨fun q => ?_, fun q => ⟨h5, s_157 ht cr wr hy hm ⟨fun q1 => ?_, fun q1 => ?_⟩⟩⟩⟩
    · rw [cr_b cr, hb.1] at q
      omega
    · rw [mUnd, if_neg] at ih
      · rw [w32_s (by omega)]
        exact ih
      · intro w
        by_cases q2 : mUnd r y m z n = -1
        · rw [if_pos q2] at q
          omega
        · rw [if_neg q2] at q
          omega
    · rw [mUnd, if_neg (by omega)] at ih
      rw [w32_s (by omega)]
      exact ih
    · rw [mUnd, if_pos] at ih
      · rw [if_neg (by omega)] at ih
        rw [w32_s (by omega)]
        exact ih
      · refine ⟨q1, ?_⟩
        by_cases q2 : mUnd r y m z n = -1
        · exact Or.inl q2
        · rw [if_neg q2] at q
          exact Or.inr q
theorem s_294_52 {d c : Nat} {h : zH} {R : Int → Nat → zH → Prop} {X : Nat → Nat → zH → Prop} {y m z : Int} {r : zH} (mr : mRoad h r) (wr : wRoad r) (hy : 0 ≤ y ∧ y < 60) (hm : 0 ≤ m ∧ m ≤ 240) (k : R (mUnd r y m z ((2 : Int) ^ (r 0 2).toNat).toNat) c h) : zWp (d + 2) 294 52 [(2, 113), (0, y), (0, m), (0, z), (0, (-1)), (0, 0)] [] (zTS c h) (zQ 1 R X) := by
  have hb := zShl_b wr
  refine zDown (W := fun n => zWp (d + 2) 294 52 [(2, 113), (0, y), (0, m), (0, z), (0, mUnd r y m z n), (0, (n : Int))] [] (zTS c h) (zQ 1 R X)) ((2 : Int) ^ (r 0 2).toNat).toNat ?_ ?_ 0 (Nat.zero_le _)
  · refine b_294_52 ⟨fun _ => k, fun q => ?_⟩
    rw [mr_b mr, hb.1] at q
    omega
  · intro n hn ih
    refine b_294_52 ⟨fun q => ?_, fun _ => s_292 mr wr hy hm ⟨fun q => ?_, fun q => ⟨fun q1 => ?_, fun q1 => s_269 (s_269 ⟨fun q2 => ?_, fun q2 => ?_⟩)⟩⟩⟩
    · rw [mr_b mr, hb.1] at q
      omega
    · rw [mUnd, if_neg (by omega)] at ih
      rw [w32_s (by omega)]
      exact ih
    · rw [mUnd, if_pos ⟨q, Or.inl q1⟩] at ih
      rw [w32_s (by omega)]
      exact ih
    · rw [mUnd, if_neg (by omega)] at ih
      rw [w32_s (by omega)]
      exact ih
    · rw [mUnd, if_pos ⟨q, Or.inr q2⟩] at ih
      rw [w32_s (by omega)]
      exact ih
/-- where to push: what each goal costs, and the first best among goals 0 .. n -/
def mPuV (r : zH) (y cc m g : Int) : Int := cc * (if g < y then y - g else g - y) + mSink r g 0 m
def mPuB (r : zH) (y cc m : Int) : Nat → Int
  | 0 => 0
  | n + 1 => if mPuV r y cc m (n + 1 : Nat) < mPuV r y cc m (mPuB r y cc m n) then (n + 1 : Nat) else mPuB r y cc m n
theorem mPuV_r {r : zH} (wr : wRoad r) {y cc m g : Int} (hy : 0 ≤ y ∧ y < 60) (hc : 0 ≤ cc ∧ cc ≤ 99) (hm : 0 ≤ m ∧ m ≤ 240) (hg : 0 ≤ g ∧ g < 60) : 0 ≤ mPuV r y cc m g ∧ mPuV r y cc m g ≤ 30000 ∧ 0 ≤ cc * (if g < y then y - g else g - y) ∧ cc * (if g < y then y - g else g - y) ≤ 6000 := by
  have h1 := mSink_r wr 0 hg hm
  have h2 := mul_r (a := cc) (b := if g < y then y - g else g - y) (A := 99) (B := 60) hc.1 hc.2 (by split <;> omega) (by split <;> omega)
  unfold mPuV
  omega
theorem s_161_44 {d c : Nat} {h : zH} {R : Int → Nat → zH → Prop} {X : Nat → Nat → zH → Prop} {t y cc m wh : Int} {r : zH} (ht : zIsR t) (h5 : h 1 5 = t) (cr : cRoad t h r) (wr : wRoad r) (hy : 0 ≤ y ∧ y < 60) (hc : 0 ≤ cc ∧ cc ≤ 99) (hm : 0 ≤ m ∧ m ≤ 240) (k : R (if wh = 0 then mPuB r y cc m 59 else mPuV r y cc m (mPuB r y cc m 59)) c h) : zWp (d + 2) 161 44 [(2, 1), (0, y), (0, cc), (0, m), (0, wh), (0, y), (0, 2147483647), (0, 0), (9, 0)] [] (zTS c h) (zQ 1 R X) := by
  have ev : ∀ g : Int, 0 ≤ g → g < 60 → w32 (w32 (cc * zAbs (w32 (g - y))) + mSink r g 0 m) = mPuV r y cc m g := by
    intro g g0 g1
    have hv := mPuV_r wr hy hc hm ⟨g0, g1⟩
    have e1 : zAbs (w32 (g - y)) = if g < y then y - g else g - y := by
      rw [w32_e (by omega) (by omega)]
      unfold zAbs
      by_cases q : g < y
      · rw [if_pos (by omega), if_pos q, w32_e (by omega) (by omega)]
        omega
      · rw [if_neg (by omega), if_neg q]
    rw [e1, w32_e (x := cc * _) (by omega) (by omega)]
    show w32 (mPuV r y cc m g) = _
    exact w32_e (by omega) (by omega)
  have main := zDown (W := fun n => zWp (d + 2) 161 44 [(2, 1), (0, y), (0, cc), (0, m), (0, wh), (0, mPuB r y cc m n), (0, mPuV r y cc m (mPuB r y cc m n)), (0, ((n + 1 : Nat) : Int)), (9, 0)] [] (zTS c h) (zQ 1 R X)) 59 ?_ ?_ 0 (Nat.zero_le _)
  · refine b_161_44 ht ⟨fun q => by omega, fun _ => ⟨h5, s_157 ht cr wr (by omega) hm ⟨fun q => ?_, fun q => ?_⟩⟩⟩
    · rw [ev 0 (by omega) (by omega)] at q
      have := mPuV_r wr hy hc hm (g := 0) (by omega)
      omega
    · rw [ev 0 (by omega) (by omega)]
      exact main
  · refine b_161_44 ht ⟨fun _ => ⟨fun q => ?_, fun q => ?_⟩, fun q => by omega⟩
    · rw [if_neg q] at k
      exact k
    · rw [if_pos q] at k
      exact k
  · intro n hn ih
    refine b_161_44 ht ⟨fun q => by omega, fun _ => ⟨h5, s_157 ht cr wr (by omega) hm ?_⟩⟩
    rw [ev _ (by omega) (by omega), w32_s (by omega)]
    rw [mPuB] at ih
    refine ⟨fun q => ?_, fun q => ?_⟩
    · rw [if_neg (by omega)] at ih
      exact ih
    · rw [if_pos q] at ih
      exact ih
theorem s_295_64 {d c : Nat} {h : zH} {R : Int → Nat → zH → Prop} {X : Nat → Nat → zH → Prop} {y cc m wh : Int} {r : zH} (mr : mRoad h r) (wr : wRoad r) (hy : 0 ≤ y ∧ y < 60) (hc : 0 ≤ cc ∧ cc ≤ 99) (hm : 0 ≤ m ∧ m ≤ 240) (k : R (if wh = 0 then mPuB r y cc m 59 else mPuV r y cc m (mPuB r y cc m 59)) c h) : zWp (d + 2) 295 64 [(2, 113), (0, y), (0, cc), (0, m), (0, wh), (0, (-1)), (0, 0), (0, 0), (9, 0)] [] (zTS c h) (zQ 1 R X) := by
  have ev1 : ∀ g : Int, 0 ≤ g → g < 60 → y ≤ g → w32 (w32 (cc * w32 (g - y)) + mSink r g 0 m) = mPuV r y cc m g := by
    intro g g0 g1 q
    have hv := mPuV_r wr hy hc hm ⟨g0, g1⟩
    rw [w32_e (x := g - y) (by omega) (by omega)]
    unfold mPuV at hv ⊢
    rw [if_neg (by omega)] at hv ⊢
    rw [w32_e (x := cc * _) (by omega) (by omega)]
    exact w32_e (by omega) (by omega)
  have ev2 : ∀ g : Int, 0 ≤ g → g < 60 → g < y → w32 (w32 (cc * w32 (y - g)) + mSink r g 0 m) = mPuV r y cc m g := by
    intro g g0 g1 q
    have hv := mPuV_r wr hy hc hm ⟨g0, g1⟩
    rw [w32_e (x := y - g) (by omega) (by omega)]
    unfold mPuV at hv ⊢
    rw [if_pos (by omega)] at hv ⊢
    rw [w32_e (x := cc * _) (by omega) (by omega)]
    exact w32_e (by omega) (by omega)
  have hB : ∀ n : Nat, 0 ≤ mPuB r y cc m n := by
    intro n
    induction n with
    | zero => simp [mPuB]
    | succ n ih =>
      rw [mPuB]
      split <;> omega
  have main := zDown (W := fun n => zWp (d + 2) 295 64 [(2, 113), (0, y), (0, cc), (0, m), (0, wh), (0, mPuB r y cc m n), (0, mPuV r y cc m (mPuB r y cc m n)), (0, ((n + 1 : Nat) : Int)), (9, 0)] [] (zTS c h) (zQ 1 R X)) 59 ?_ ?_ 0 (Nat.zero_le _)
  · refine b_295_64 ⟨fun q => by omega, fun _ => ⟨fun q => s_292 mr wr (by omega) hm ⟨fun _ => ?_, fun q1 => absurd rfl q1⟩, fun q => s_292 mr wr (by omega) hm ⟨fun _ => ?_, fun q1 => absurd rfl q1⟩⟩⟩
    · rw [ev1 0 (by omega) (by omega) q]
      exact main
    · rw [ev2 0 (by omega) (by omega) q]
      exact main
  · refine b_295_64 ⟨fun _ => ⟨fun q => ?_, fun q => ?_⟩, fun q => by omega⟩
    · rw [if_neg q] at k
      exact k
    · rw [if_pos q] at k
      exact k
  · intro n hn ih
    have hB := hB n
    rw [mPuB] at ih
    refine b_295_64 ⟨fun q => by omega, fun _ => ⟨fun q => s_292 mr wr (by omega) hm ⟨fun q1 => by omega, fun _ => ?_⟩, fun q => s_292 mr wr (by omega) hm ⟨fun q1 => by omega, fun _ => ?_⟩⟩⟩
    · rw [ev1 _ (by omega) (by omega) q, w32_s (by omega)]
      refine ⟨fun q => ?_, fun q => ?_⟩
      · rw [if_pos q] at ih
        exact ih
      · rw [if_neg (by omega)] at ih
        exact ih
    · rw [ev2 _ (by omega) (by omega) q, w32_s (by omega)]
      refine ⟨fun q => ?_, fun q => ?_⟩
      · rw [if_pos q] at ih
        exact ih
      · rw [if_neg (by omega)] at ih
        exact ih
