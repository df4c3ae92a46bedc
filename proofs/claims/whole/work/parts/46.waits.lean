/-! waits -/
/-- the mean of a wait, times 16 to the n, of the last n minutes -/
def mWA (q w m h : Int) : Nat → Int
  | 0 => w + m
  | n + 1 => q * (w - n + h) * 16 ^ n + (16 - q) * mWA q w m h n
/-- the same from the first minutes on -/
def mWS (q h : Int) : Nat → Int
  | 0 => 0
  | t + 1 => 16 * mWS q h t + (16 - q) ^ t * q * (t + 1 + h)
theorem mWA_r {q w m h : Int} (hq : 0 ≤ q ∧ q ≤ 16) (hw : 0 ≤ w ∧ w ≤ 8) (hm : 0 ≤ m ∧ m ≤ 240) (hh : 0 ≤ h ∧ h ≤ 240) : ∀ n : Nat, n ≤ w.toNat → 0 ≤ mWA q w m h n ∧ mWA q w m h n ≤ 248 * 16 ^ n
  | 0, _ => by
    rw [mWA]
    omega
  | n + 1, hn => by
    have h1 := mWA_r hq hw hm hh n (by omega)
    have hp := (pow_r (b := 0) (k := n) (by omega) (by omega) (by omega)).2.2
    have h2 := mul_r (a := q) (A := q) (b := (w - n + h) * 16 ^ n) (B := 248 * 16 ^ n) hq.1 (Int.le_refl _) (Int.mul_nonneg (by omega) (by omega)) (Int.mul_le_mul_of_nonneg_right (by omega) (by omega))
    have h3 := mul_r (a := 16 - q) (A := 16 - q) (b := mWA q w m h n) (B := 248 * 16 ^ n) (by omega) (Int.le_refl _) h1.1 h1.2
    have e : q * (248 * 16 ^ n) + (16 - q) * (248 * 16 ^ n) = 248 * 16 ^ (n + 1) := by
      rw [← Int.add_mul, Int.pow_succ, show q + (16 - q) = 16 by omega]
      omega
    rw [mWA, Int.mul_assoc]
    omega
theorem s_174 {d c : Nat} {H : zH} {R : Int → Nat → zH → Prop} {X : Nat → Nat → zH → Prop} {t w m h : Int} {r : zH} (ht : zIsR t) (h5 : H 1 5 = t) (cr : cRoad t H r) (wr : wRoad r) (hw : 0 ≤ w ∧ w ≤ 8) (hm : 0 ≤ m ∧ m ≤ 240) (hh : 0 ≤ h ∧ h ≤ 240) (k : R (mWA (r 0 6) w m h w.toNat) c H) : zCl d 174 [(2, 1), (0, w), (0, m), (0, h)] c H R X := by
  have hq := wr_stops wr
  refine b_174 ht ?_
  have main := zDown (W := fun n => zWp d 174 12 [(2, 1), (0, w), (0, m), (0, h), (1, mWA (r 0 6) w m h n), (9, 0), (1, 16 ^ n), (9, 0), (0, w - n)] [] (zTS c H) (zQ 3 R X)) w.toNat ?_ ?_ 0 (Nat.zero_le _)
  · rw [Int.pow_zero, show w - ((0 : Nat) : Int) = w by omega] at main
    rw [w32_e (by omega) (by omega)]
    exact main
  · exact b_174_12 ht ⟨fun _ => k, fun q => by omega⟩
  · intro n hn ih
    have h0 := mWA_r hq hw hm hh n (by omega)
    have h1 := mWA_r hq hw hm hh (n + 1) (by omega)
    have hp := (pow_r (b := 0) (k := n) (by omega) (by omega) (by omega)).2.2
    have hp1 := (pow_r (b := 0) (k := n + 1) (by omega) (by omega) (by omega)).2.2
    have a1 := mul_r (a := r 0 6) (A := 16) (b := w - n + h) (B := 248) hq.1 hq.2 (by omega) (by omega)
    have a2 := mul_r (a := r 0 6 * (w - n + h)) (A := 3968) (b := 16 ^ n) (B := 4294967296) a1.1 (by omega) (by omega) (by omega)
    have a3 := mul_r (a := 16 - r 0 6) (A := 16) (b := mWA (r 0 6) w m h n) (B := 248 * 16 ^ n) (by omega) (by omega) h0.1 h0.2
    refine b_174_12 ht ⟨fun q => by omega, fun _ => ⟨h5, h5, ?_⟩⟩
    rw [cr_stops cr, w32_e (x := w - n + h) (by omega) (by omega), w32_e (x := r 0 6 * _) (by omega) (by omega), w64_e (x := _ * 16 ^ n) (by omega) (by omega), w32_e (x := 16 - r 0 6) (by omega) (by omega), w64_e (x := (16 - r 0 6) * _) (by omega) (by omega)]
    rw [mWA] at ih
    rw [show (16 : Int) ^ n * 16 = 16 ^ (n + 1) from (Int.pow_succ 16 n).symm, w64_e (x := 16 ^ (n + 1)) (by omega) (by omega), w32_e (x := w - n + -1) (by omega) (by omega), show w - (n : Int) + -1 = w - ((n + 1 : Nat) : Int) by omega, w64_e (by omega) (by omega)]
    exact ih
theorem mWS_r {q h : Int} (hq : 0 ≤ q ∧ q ≤ 16) (hh : 0 ≤ h ∧ h ≤ 240) : ∀ t : Nat, t ≤ 8 → 0 ≤ mWS q h t ∧ mWS q h t + 248 * (16 - q) ^ t ≤ 248 * 16 ^ t
  | 0, _ => by
    rw [mWS, Int.pow_zero, Int.pow_zero]
    omega
  | t + 1, ht => by
    have h1 := mWS_r hq hh t (by omega)
    have hp := pow_r (b := 16 - q) (k := t) (by omega) (by omega) (by omega)
    have h2 := mul_r (a := (16 - q) ^ t * q) (A := (16 - q) ^ t * q) (b := t + 1 + h) (B := 248) (Int.mul_nonneg hp.1 hq.1) (Int.le_refl _) (by omega) (by omega)
    have e1 : (16 - q) ^ (t + 1) = (16 - q) ^ t * 16 - (16 - q) ^ t * q := by
      rw [Int.pow_succ, Int.mul_sub]
    have e2 : (16 : Int) ^ (t + 1) = 16 * 16 ^ t := by
      rw [Int.pow_succ, Int.mul_comm]
    rw [mWS]
    omega
theorem mW_eq {q w m h : Int} (hw : 0 ≤ w) : ∀ (t n : Nat), (t : Int) + n = w → 16 ^ n * mWS q h t + (16 - q) ^ t * mWA q w m h n = mWA q w m h w.toNat := by
  intro t
  induction t with
  | zero =>
    intro n hn
    rw [mWS, Int.pow_zero, show w.toNat = n by omega]
    omega
  | succ t ih =>
    intro n hn
    rw [← ih (n + 1) (by omega), mWS, mWA, show w - (n : Int) = t + 1 by omega]
    rw [Int.pow_succ, Int.pow_succ]
    grind
theorem s_305 {d c : Nat} {H : zH} {R : Int → Nat → zH → Prop} {X : Nat → Nat → zH → Prop} {w m h : Int} {r : zH} (mr : mRoad H r) (wr : wRoad r) (hw : 0 ≤ w ∧ w ≤ 8) (hm : 0 ≤ m ∧ m ≤ 240) (hh : 0 ≤ h ∧ h ≤ 240) (k : R (mWA (r 0 6) w m h w.toNat) c H) : zCl d 305 [(2, 113), (0, w), (0, m), (0, h)] c H R X := by
  have hq := wr_stops wr
  refine b_305 ?_
  rw [(mr_told mr).2.1]
  have main := zDown (W := fun n => zWp d 305 17 [(2, 113), (0, w), (0, m), (0, h), (0, r 0 6), (1, mWS (r 0 6) h n), (9, 0), (1, (16 - r 0 6) ^ n), (9, 0), (0, (n : Int) + 1)] [] (zTS c H) (zQ 3 R X)) w.toNat ?_ ?_ 0 (Nat.zero_le _)
  · rw [Int.pow_zero] at main
    exact main
  · have h0 := mWS_r hq hh w.toNat (by omega)
    have hp := pow_r (b := 16 - r 0 6) (k := w.toNat) (by omega) (by omega) (by omega)
    have a1 := mul_r (a := (16 - r 0 6) ^ w.toNat) (A := 16 ^ w.toNat) (b := w + m) (B := 248) hp.1 hp.2.1 (by omega) (by omega)
    refine b_305_17 ⟨fun _ => ?_, fun q => by omega⟩
    have e := mW_eq (q := r 0 6) (m := m) (h := h) hw.1 w.toNat 0 (by omega)
    rw [Int.pow_zero, Int.one_mul, mWA] at e
    rw [w32_e (by omega) (by omega), w64_e (x := _ * (w + m)) (by omega) (by omega), w64_e (by omega) (by omega), e]
    exact k
  · intro n hn ih
    have h0 := mWS_r hq hh n (by omega)
    have h1 := mWS_r hq hh (n + 1) (by omega)
    have hp := pow_r (b := 16 - r 0 6) (k := n) (by omega) (by omega) (by omega)
    have hp1 := pow_r (b := 16 - r 0 6) (k := n + 1) (by omega) (by omega) (by omega)
    have a1 := mul_r (a := (16 - r 0 6) ^ n) (A := 16 ^ n) (b := r 0 6) (B := 16) hp.1 hp.2.1 hq.1 hq.2
    have a2 := mul_r (a := (16 - r 0 6) ^ n * r 0 6) (A := 16 ^ n * 16) (b := n + 1 + h) (B := 248) a1.1 a1.2 (by omega) (by omega)
    refine b_305_17 ⟨fun q => by omega, fun _ => ?_⟩
    rw [w64_e (x := 16 * _) (by omega) (by omega), w64_e (x := (16 - r 0 6) ^ n * r 0 6) (by omega) (by omega), w32_e (x := (n : Int) + 1 + h) (by omega) (by omega), w64_e (x := _ * ((n : Int) + 1 + h)) (by omega) (by omega)]
    rw [mWS] at ih h1
    rw [w32_e (x := 16 - r 0 6) (by omega) (by omega), show (16 - r 0 6) ^ n * (16 - r 0 6) = (16 - r 0 6) ^ (n + 1) from (Int.pow_succ _ n).symm, w64_e (x := (16 - r 0 6) ^ (n + 1)) (by omega) (by omega), w32_e (x := (n : Int) + 1 + 1) (by omega) (by omega), w64_e (by omega) (by omega)]
    exact ih
def mWN (q m h w : Int) : Int := mWA q w m h w.toNat * 16 ^ (8 - w).toNat
/-- the best wait of 0 .. n -/
def mAw (q m h : Int) : Nat → Int
  | 0 => 0
  | n + 1 => if mWN q m h (n + 1 : Nat) < mWN q m h (mAw q m h n) then (n + 1 : Nat) else mAw q m h n
theorem mAw_r (q m h : Int) : ∀ n : Nat, 0 ≤ mAw q m h n ∧ mAw q m h n ≤ n
  | 0 => by simp [mAw]
  | n + 1 => by
    have := mAw_r q m h n
    rw [mAw]
    split <;> omega
theorem mWN_r {q m h w : Int} (hq : 0 ≤ q ∧ q ≤ 16) (hw : 0 ≤ w ∧ w ≤ 8) (hm : 0 ≤ m ∧ m ≤ 240) (hh : 0 ≤ h ∧ h ≤ 240) : 0 ≤ mWN q m h w ∧ mWN q m h w ≤ 248 * 4294967296 := by
  have h0 := mWA_r hq hw hm hh w.toNat (Nat.le_refl _)
  have hp := (pow_r (b := 0) (k := (8 - w).toNat) (by omega) (by omega) (by omega)).2.2
  have a := mul_r (a := mWA q w m h w.toNat) (A := 248 * 16 ^ w.toNat) (b := 16 ^ (8 - w).toNat) (B := 16 ^ (8 - w).toNat) h0.1 h0.2 (by omega) (Int.le_refl _)
  have e : 248 * (16 : Int) ^ w.toNat * 16 ^ (8 - w).toNat = 248 * 4294967296 := by
    rw [Int.mul_assoc, ← Int.pow_add, show w.toNat + (8 - w).toNat = 8 by omega]
    rfl
  unfold mWN
  omega
theorem s_176_28 {d c : Nat} {H : zH} {R : Int → Nat → zH → Prop} {X : Nat → Nat → zH → Prop} {t m h : Int} {r : zH} (ht : zIsR t) (h5 : H 1 5 = t) (cr : cRoad t H r) (wr : wRoad r) (hm : 0 ≤ m ∧ m ≤ 240) (hh : 0 ≤ h ∧ h ≤ 240) (k : R (mAw (r 0 6) m h 8) c H) : zWp (d + 2) 176 28 [(2, 1), (0, m), (0, h), (0, 0), (1, 9223372036854775807), (9, 0), (0, 0), (9, 0), (9, 0)] [] (zTS c H) (zQ 1 R X) := by
  have hq := wr_stops wr
  have main := zDown (W := fun n => zWp (d + 2) 176 28 [(2, 1), (0, m), (0, h), (0, mAw (r 0 6) m h n), (1, mWN (r 0 6) m h (mAw (r 0 6) m h n)), (9, 0), (0, ((n + 1 : Nat) : Int)), (9, 0), (9, 0)] [] (zTS c H) (zQ 1 R X)) 8 ?_ ?_ 0 (Nat.zero_le _)
  · have hv := mWN_r (w := 0) hq (by omega) hm hh
    refine b_176_28 ⟨fun q => by omega, fun _ => s_174 ht h5 cr wr (by omega) hm hh ?_⟩
    rw [w32_e (by omega) (by omega)]
    refine s_164 (by omega) (by omega) ?_
    show (_ ≤ w64 (mWN (r 0 6) m h 0) → _) ∧ (w64 (mWN (r 0 6) m h 0) < _ → zWp (d + 2) 176 28 [(2, 1), (0, m), (0, h), (0, 0), (1, w64 (mWN (r 0 6) m h 0)), (9, 0), (0, w32 (0 + 1)), (9, 0), (9, 0)] [] (zTS c H) (zQ 1 R X))
    rw [w64_e (by omega) (by omega)]
    exact ⟨fun q => by omega, fun _ => main⟩
  · exact b_176_28 ⟨fun _ => k, fun q => by omega⟩
  · intro n hn ih
    have hv := mWN_r (w := ((n + 1 : Nat) : Int)) hq (by omega) hm hh
    refine b_176_28 ⟨fun q => by omega, fun _ => s_174 ht h5 cr wr (by omega) hm hh ?_⟩
    rw [w32_e (x := 8 - ((n + 1 : Nat) : Int)) (by omega) (by omega)]
    refine s_164 (by omega) (by omega) ?_
    have ev : mWA (r 0 6) ((n + 1 : Nat) : Int) m h ((n + 1 : Nat) : Int).toNat * 16 ^ (8 - ((n + 1 : Nat) : Int)).toNat = mWN (r 0 6) m h ((n + 1 : Nat) : Int) := rfl
    rw [ev, w64_e (by omega) (by omega), w32_s (by omega)]
    rw [mAw] at ih
    refine ⟨fun q => ?_, fun q => ?_⟩
    · rw [if_neg (by omega)] at ih
      exact ih
    · rw [if_pos q] at ih
      exact ih
theorem mWN_lt {a b q m h v w : Int} (h1 : 0 ≤ b) (h2 : b ≤ w) (h3 : w ≤ 8) (ha : a = mWA q w m h w.toNat) (hb : v = mWA q b m h b.toNat) : a < v * 16 ^ (w - b).toNat ↔ mWN q m h w < mWN q m h b := by
  have hp := (pow_r (b := 0) (k := (8 - w).toNat) (by omega) (by omega) (by omega)).2.2
  have e : v * 16 ^ (w - b).toNat * 16 ^ (8 - w).toNat = mWN q m h b := by
    unfold mWN
    rw [Int.mul_assoc, ← Int.pow_add, show (w - b).toNat + (8 - w).toNat = (8 - b).toNat by omega, hb]
  have e2 : a * 16 ^ (8 - w).toNat = mWN q m h w := by
    unfold mWN
    rw [ha]
  rw [← e, ← e2]
  exact (Int.mul_lt_mul_right (by omega)).symm
theorem s_306_40 {d c : Nat} {H : zH} {R : Int → Nat → zH → Prop} {X : Nat → Nat → zH → Prop} {m h : Int} {r : zH} (mr : mRoad H r) (wr : wRoad r) (hm : 0 ≤ m ∧ m ≤ 240) (hh : 0 ≤ h ∧ h ≤ 240) (k : R (mAw (r 0 6) m h 8) c H) : zWp (d + 1) 306 40 [(2, 113), (0, m), (0, h), (0, 0), (0, 1)] [] (zTS c H) (zQ 1 R X) := by
  have hq := wr_stops wr
  refine zDown (W := fun n => zWp (d + 1) 306 40 [(2, 113), (0, m), (0, h), (0, mAw (r 0 6) m h n), (0, ((n + 1 : Nat) : Int))] [] (zTS c H) (zQ 1 R X)) 8 ?_ ?_ 0 (Nat.zero_le _)
  · exact b_306_40 ⟨fun _ => k, fun q => by omega⟩
  · intro n hn ih
    have hb := mAw_r (r 0 6) m h n
    refine b_306_40 ⟨fun q => by omega, fun _ => s_305 mr wr (by omega) hm hh (s_305 mr wr (by omega) hm hh ?_)⟩
    rw [w32_e (x := ((n + 1 : Nat) : Int) - mAw (r 0 6) m h n) (by omega) (by omega)]
    refine s_298 (by omega) (by omega) ?_
    have iff := mWN_lt (q := r 0 6) (m := m) (h := h) (b := mAw (r 0 6) m h n) (w := ((n + 1 : Nat) : Int)) hb.1 (by omega) (by omega) rfl rfl
    have h0 := mWA_r (w := mAw (r 0 6) m h n) hq (by omega) hm hh (mAw (r 0 6) m h n).toNat (Nat.le_refl _)
    have p1 := (pow_r (b := 0) (k := (mAw (r 0 6) m h n).toNat) (by omega) (by omega) (by omega)).2.2
    have p2 := (pow_r (b := 0) (k := (((n + 1 : Nat) : Int) - mAw (r 0 6) m h n).toNat) (by omega) (by omega) (by omega)).2.2
    have a := mul_r (a := mWA (r 0 6) (mAw (r 0 6) m h n) m h (mAw (r 0 6) m h n).toNat) (A := 248 * 16 ^ (mAw (r 0 6) m h n).toNat) (b := 16 ^ (((n + 1 : Nat) : Int) - mAw (r 0 6) m h n).toNat) (B := 16 ^ (((n + 1 : Nat) : Int) - mAw (r 0 6) m h n).toNat) h0.1 h0.2 (by omega) (Int.le_refl _)
    have p3 := (pow_r (b := 0) (k := n + 1) (by omega) (by omega) (by omega)).2.2
    have e3 : 248 * (16 : Int) ^ (mAw (r 0 6) m h n).toNat * 16 ^ (((n + 1 : Nat) : Int) - mAw (r 0 6) m h n).toNat = 248 * 16 ^ (n + 1) := by
      rw [Int.mul_assoc, ← Int.pow_add, show (mAw (r 0 6) m h n).toNat + (((n + 1 : Nat) : Int) - mAw (r 0 6) m h n).toNat = n + 1 by omega]
    rw [w64_e (by omega) (by omega), w32_s (by omega)]
    rw [mAw] at ih
    refine ⟨fun q => ?_, fun q => ?_⟩
    · rw [if_neg (fun w => by have := iff.mpr w; omega)] at ih
      exact ih
    · rw [if_pos (iff.mp q)] at ih
      exact ih
