/-! nuts and waits -/
theorem w64_e {x : Int} (h1 : -9223372036854775808 ≤ x) (h2 : x ≤ 9223372036854775807) : w64 x = x := by
  unfold w64
  omega
theorem pow_r {b : Int} {k : Nat} (h0 : 0 ≤ b) (h1 : b ≤ 16) (hk : k ≤ 8) : 0 ≤ b ^ k ∧ b ^ k ≤ 16 ^ k ∧ (16 : Int) ^ k ≤ 4294967296 ∧ 1 ≤ (16 : Int) ^ k := by
  obtain ⟨m, rfl⟩ : ∃ m : Nat, b = m := ⟨b.toNat, by omega⟩
  have a1 : m ^ k ≤ 16 ^ k := Nat.pow_le_pow_left (by omega) k
  have a2 : (16 : Nat) ^ k ≤ 16 ^ 8 := Nat.pow_le_pow_right (by decide) hk
  have a3 : 0 < (16 : Nat) ^ k := Nat.pow_pos (by decide)
  refine ⟨?_, ?_, ?_, ?_⟩
  · have : (0 : Int) ≤ ((m ^ k : Nat) : Int) := by omega
    rwa [Int.natCast_pow] at this
  · have : ((m ^ k : Nat) : Int) ≤ ((16 ^ k : Nat) : Int) := by omega
    rw [Int.natCast_pow, Int.natCast_pow] at this
    exact this
  · have : ((16 ^ k : Nat) : Int) ≤ ((16 ^ 8 : Nat) : Int) := by omega
    rw [Int.natCast_pow] at this
    exact this
  · have : (1 : Int) ≤ ((16 ^ k : Nat) : Int) := by omega
    rw [Int.natCast_pow] at this
    exact this
theorem s_164 {d c : Nat} {h : zH} {R : Int → Nat → zH → Prop} {X : Nat → Nat → zH → Prop} {b n : Int} (hb : 0 ≤ b ∧ b ≤ 16) (hn : 0 ≤ n ∧ n ≤ 8) (k : R (b ^ n.toNat) c h) : zCl d 164 [(0, b), (0, n)] c h R X := by
  refine b_164 ?_
  have main := zDown (W := fun m => zWp d 164 5 [(0, b), (0, n), (1, b ^ m), (9, 0), (0, (m : Int))] [] (zTS c h) (zQ 3 R X)) n.toNat ?_ ?_ 0 (Nat.zero_le _)
  · rw [Int.pow_zero] at main
    exact main
  · exact b_164_5 ⟨fun _ => k, fun q => by omega⟩
  · intro m hm ih
    have h1 := pow_r hb.1 hb.2 (k := m + 1) (by omega)
    refine b_164_5 ⟨fun q => by omega, fun _ => ?_⟩
    rw [show b ^ m * b = b ^ (m + 1) from (Int.pow_succ b m).symm, w64_e (by omega) (by omega), w32_s (by omega)]
    exact ih
theorem s_298 {d c : Nat} {h : zH} {R : Int → Nat → zH → Prop} {X : Nat → Nat → zH → Prop} {b n : Int} (hb : 0 ≤ b ∧ b ≤ 16) (hn : 0 ≤ n ∧ n ≤ 8) (k : R (b ^ n.toNat) c h) : zCl d 298 [(1, b), (0, n)] c h R X := by
  refine b_298 ?_
  have main := zDown (W := fun m => zWp d 298 5 [(1, b), (9, 0), (0, n), (1, b ^ m), (9, 0), (0, (m : Int))] [] (zTS c h) (zQ 3 R X)) n.toNat ?_ ?_ 0 (Nat.zero_le _)
  · rw [Int.pow_zero] at main
    exact main
  · exact b_298_5 ⟨fun _ => k, fun q => by omega⟩
  · intro m hm ih
    have h1 := pow_r hb.1 hb.2 (k := m + 1) (by omega)
    refine b_298_5 ⟨fun q => by omega, fun _ => ?_⟩
    rw [show b ^ m * b = b ^ (m + 1) from (Int.pow_succ b m).symm, w64_e (by omega) (by omega), w32_s (by omega)]
    exact ih
theorem tmod_n (A B : Nat) : Int.tmod (A : Int) (B : Int) = ((A % B : Nat) : Int) := by
  rw [Int.tmod_eq_emod_of_nonneg (by omega)]
  norm_cast
theorem gcd_n (A B : Nat) : Nat.gcd B (A % B) = Nat.gcd A B := by
  rw [Nat.gcd_comm B, ← Nat.gcd_rec, Nat.gcd_comm]
theorem half_n {A B : Nat} (hB : 0 < B) (hA : B < A) : 2 * (B * (A % B)) ≤ A * B := by
  have h1 := Nat.div_add_mod A B
  have h2 := Nat.mod_lt A hB
  have h3 : 1 ≤ A / B := (Nat.le_div_iff_mul_le hB).mpr (by omega)
  have h4 : B ≤ B * (A / B) := Nat.le_mul_of_pos_right B (by omega)
  have h5 : 2 * (A % B) ≤ A := by omega
  calc 2 * (B * (A % B)) = (2 * (A % B)) * B := by rw [Nat.mul_comm B, Nat.mul_assoc]
    _ ≤ A * B := Nat.mul_le_mul_right B h5
theorem s_167_9 {d c : Nat} {h : zH} {R : Int → Nat → zH → Prop} {X : Nat → Nat → zH → Prop} {x1 x2 : Int} {G : Nat} (k : R G c h) : ∀ (m A B : Nat) (i : Int), 0 ≤ i → i + m = 100 → B < A → A * B < 2 ^ m → Nat.gcd A B = G → zWp d 167 9 [(1, x1), (9, 0), (1, x2), (9, 0), (1, (A : Int)), (9, 0), (1, (B : Int)), (9, 0), (0, i), (9, 0), (9, 0)] [] (zTS c h) (zQ 3 R X) := by
  intro m
  induction m with
  | zero =>
    intro A B i hi0 hi hAB hp hg
    have hB : B = 0 := by
      rcases Nat.eq_zero_or_pos B with e | e
      · exact e
      · have := Nat.mul_le_mul (show 1 ≤ A by omega) (show 1 ≤ B from e)
        simp at hp
        omega
    subst hB
    rw [Nat.gcd_zero_right] at hg
    subst hg
    exact b_167_9 ⟨fun _ => k, fun q => by omega⟩
  | succ m ih =>
    intro A B i hi0 hi hAB hp hg
    refine b_167_9 ⟨fun q => by omega, fun _ => ⟨fun q => ?_, fun q => ⟨q, ?_⟩⟩⟩
    · have : B = 0 := by omega
      subst this
      rw [Nat.gcd_zero_right] at hg
      subst hg
      exact k
    · have hB : 0 < B := by omega
      rw [tmod_n, w32_e (by omega) (by omega)]
      refine ih B (A % B) (i + 1) (by omega) (by omega) (Nat.mod_lt A hB) ?_ (by rw [gcd_n, hg])
      have := half_n hB hAB
      rw [Nat.pow_succ] at hp
      omega
/-- one part of a fraction in its least terms -/
def mLst (a b part : Int) : Int := (((if part = 0 then a else b).toNat / Nat.gcd a.toNat b.toNat : Nat) : Int)
theorem sq_lt {A B : Nat} (hA : A < 2 ^ 48) (hB : B < 2 ^ 48) : A * B < 2 ^ 96 := by
  calc A * B ≤ A * 2 ^ 48 := Nat.mul_le_mul_left A (by omega)
    _ < 2 ^ 48 * 2 ^ 48 := Nat.mul_lt_mul_of_pos_right hA (by decide)
theorem s_166 {d c : Nat} {h : zH} {R : Int → Nat → zH → Prop} {X : Nat → Nat → zH → Prop} {a b part : Int} (ha : 0 ≤ a ∧ a < 281474976710656) (hb : 1 ≤ b ∧ b < 281474976710656) (k : R (mLst a b part) c h) : zCl (d + 1) 166 [(1, a), (1, b), (0, part)] c h R X := by
  obtain ⟨A, rfl⟩ : ∃ A : Nat, a = A := ⟨a.toNat, by omega⟩
  obtain ⟨B, rfl⟩ : ∃ B : Nat, b = B := ⟨b.toNat, by omega⟩
  have hA : A < 2 ^ 48 := by omega
  have hB : B < 2 ^ 48 := by omega
  have hg : 0 < Nat.gcd A B := Nat.gcd_pos_of_pos_right A (by omega)
  refine b_166 (b_167 (b_167_9 ⟨fun q => by omega, fun _ => ⟨fun q => by omega, fun q => ⟨q, ?_⟩⟩⟩))
  rw [tmod_n, w32_e (by omega) (by omega)]
  refine s_167_9 (G := Nat.gcd A B) ?_ 99 B (A % B) (0 + 1) (by omega) (by omega) (Nat.mod_lt A (by omega)) ?_ (gcd_n A B)
  · unfold mLst at k
    simp only [Int.toNat_natCast] at k
    have td : ∀ C : Nat, C < 2 ^ 48 → w64 (Int.tdiv (C : Int) ((Nat.gcd A B : Nat) : Int)) = ((C / Nat.gcd A B : Nat) : Int) := by
      intro C hC
      rw [Int.tdiv_eq_ediv_of_nonneg (by omega)]
      have : C / Nat.gcd A B ≤ C := Nat.div_le_self ..
      rw [show (C : Int) / ((Nat.gcd A B : Nat) : Int) = ((C / Nat.gcd A B : Nat) : Int) by norm_cast]
      generalize C / Nat.gcd A B = z at this
      exact w64_e (by omega) (by omega)
    refine ⟨fun q => ⟨fun q1 => ⟨q1, ?_⟩, fun q1 => by omega⟩, fun q => ⟨fun q1 => ⟨q1, ?_⟩, fun q1 => by omega⟩⟩
    · rw [td B hB]
      rw [if_neg q] at k
      exact k
    · rw [td A hA]
      rw [if_pos q] at k
      exact k
  · have h1 := Nat.mod_lt A (show 0 < B by omega)
    have := sq_lt hB (show A % B < 2 ^ 48 by omega)
    omega
theorem s_301 {d c : Nat} {h : zH} {R : Int → Nat → zH → Prop} {X : Nat → Nat → zH → Prop} {a b part : Int} (ha : 0 ≤ a ∧ a < 281474976710656) (hb : 1 ≤ b ∧ b < 281474976710656) (k : R (mLst a b part) c h) : zCl d 301 [(1, a), (1, b), (0, part)] c h R X := by
  obtain ⟨A, rfl⟩ : ∃ A : Nat, a = A := ⟨a.toNat, by omega⟩
  obtain ⟨B, rfl⟩ : ∃ B : Nat, b = B := ⟨b.toNat, by omega⟩
  have hA : A < 2 ^ 48 := by omega
  have hB : B < 2 ^ 48 := by omega
  have hg : 0 < Nat.gcd A B := Nat.gcd_pos_of_pos_right A (by omega)
  unfold mLst at k
  simp only [Int.toNat_natCast] at k
  have td : ∀ C : Nat, C < 2 ^ 48 → w64 (Int.tdiv (C : Int) ((Nat.gcd A B : Nat) : Int)) = ((C / Nat.gcd A B : Nat) : Int) := by
    intro C hC
    rw [Int.tdiv_eq_ediv_of_nonneg (by omega)]
    have : C / Nat.gcd A B ≤ C := Nat.div_le_self ..
    rw [show (C : Int) / ((Nat.gcd A B : Nat) : Int) = ((C / Nat.gcd A B : Nat) : Int) by norm_cast]
    generalize C / Nat.gcd A B = z at this
    exact w64_e (by omega) (by omega)
  have loop : ∀ (m C D : Nat), D < m → Nat.gcd C D = Nat.gcd A B → zWp d 301 6 [(1, (A : Int)), (9, 0), (1, (B : Int)), (9, 0), (0, part), (1, (C : Int)), (9, 0), (1, (D : Int)), (9, 0), (9, 0), (9, 0)] [] (zTS c h) (zQ 3 R X) := by
    intro m
    induction m with
    | zero =>
      intro C D hD _
      omega
    | succ m ih =>
      intro C D hD hG
      refine b_301_6 ⟨fun q => ?_, fun q => ⟨q, ?_⟩⟩
      · have : D = 0 := by omega
        subst this
        rw [Nat.gcd_zero_right] at hG
        subst hG
        refine ⟨fun q1 => ⟨by omega, ?_⟩, fun q1 => ⟨by omega, ?_⟩⟩
        · rw [td B hB]
          rw [if_neg q1] at k
          exact k
        · rw [td A hA]
          rw [if_pos q1] at k
          exact k
      · rw [tmod_n]
        have := Nat.mod_lt C (show 0 < D by omega)
        exact ih D (C % D) (by omega) (by rw [gcd_n, hG])
  exact b_301 (loop (B + 1) A B (by omega) rfl)
/-- by how many of 16 a nut comes loose -/
def mLs (r : zH) (k s : Int) : Int := if 0 < (if 2 * s - r 9 k < 16 then 2 * s - r 9 k else 16) then (if 2 * s - r 9 k < 16 then 2 * s - r 9 k else 16) else 0
theorem mLs_r (r : zH) (k s : Int) : 0 ≤ mLs r k s ∧ mLs r k s ≤ 16 := by
  unfold mLs
  split <;> split <;> omega
theorem s_165 {d c : Nat} {h : zH} {R : Int → Nat → zH → Prop} {X : Nat → Nat → zH → Prop} {t k s : Int} {r : zH} (ht : zIsR t) (cr : cRoad t h r) (wr : wRoad r) (hk : 0 ≤ k ∧ k < r 0 3) (hs : 0 ≤ s ∧ s ≤ 18) (K : R (mLs r k s) c h) : zCl d 165 [(2, t), (0, k), (0, s)] c h R X := by
  have h1 := wr_n wr
  have h2 := wr_nut wr k hk.1 hk.2
  refine b_165 ht ⟨by omega, ?_⟩
  rw [cr_nut cr k hk.1 hk.2, w32_e (x := 2 * s) (by omega) (by omega), w32_e (x := 2 * s - r 9 k) (by omega) (by omega)]
  exact K
theorem s_300 {d c : Nat} {h : zH} {R : Int → Nat → zH → Prop} {X : Nat → Nat → zH → Prop} {k s : Int} {r : zH} (mr : mRoad h r) (wr : wRoad r) (hk : 0 ≤ k ∧ k < r 0 3) (hs : 0 ≤ s ∧ s ≤ 18) (K : R (mLs r k s) c h) : zCl d 300 [(2, 113), (0, k), (0, s)] c h R X := by
  have h1 := wr_n wr
  have h2 := wr_nut wr k hk.1 hk.2
  refine b_300 ?_
  rw [mr_nut mr k hk.1 hk.2, w32_e (x := 2 * s) (by omega) (by omega), w32_e (x := 2 * s - r 9 k) (by omega) (by omega)]
  unfold mLs at K
  refine ⟨by omega, fun q => ⟨fun q1 => ?_, fun q1 => ?_⟩, fun q => ?_⟩
  · have e : (if 0 < (if 2 * s - r 9 k < 16 then 2 * s - r 9 k else 16) then (if 2 * s - r 9 k < 16 then 2 * s - r 9 k else 16) else 0) = 2 * s - r 9 k := by (repeat' split) <;> omega
    rw [e] at K
    exact K
  · have e : (if 0 < (if 2 * s - r 9 k < 16 then 2 * s - r 9 k else 16) then (if 2 * s - r 9 k < 16 then 2 * s - r 9 k else 16) else 0) = 16 := by (repeat' split) <;> omega
    rw [e] at K
    exact K
  · have e : (if 0 < (if 2 * s - r 9 k < 16 then 2 * s - r 9 k else 16) then (if 2 * s - r 9 k < 16 then 2 * s - r 9 k else 16) else 0) = 0 := by (repeat' split) <;> omega
    rw [e] at K
    exact K
theorem s_299 {d c : Nat} {h : zH} {R : Int → Nat → zH → Prop} {X : Nat → Nat → zH → Prop} {k n s : Int} {r : zH} (mr : mRoad h r) (wr : wRoad r) (hk : 0 ≤ k ∧ k < r 0 3) (hs : 0 ≤ s ∧ s ≤ 18) (hn : 0 ≤ n ∧ n ≤ 8) (K : R ((16 - mLs r k s) ^ n.toNat) c h) : zCl (d + 1) 299 [(2, 113), (0, k), (0, n), (0, s)] c h R X := by
  have := mLs_r r k s
  refine b_299 (s_300 mr wr hk hs ?_)
  rw [w32_e (by omega) (by omega)]
  exact s_298 (by omega) hn K
/-- the first number of tries, of the last m up to 7, by which a half is done -/
def mHf (st : Int) : Nat → Int
  | 0 => -1
  | m + 1 => if 2 * st ^ (7 - m) ≤ 16 ^ (7 - m) then 7 - m else mHf st m
theorem s_169_36 {d c : Nat} {h : zH} {R : Int → Nat → zH → Prop} {X : Nat → Nat → zH → Prop} {x1 x2 t st : Int} (ht : zIsR t) (hst : 0 ≤ st ∧ st ≤ 16) : ∀ m : Nat, m ≤ 7 → R (mHf st m) c h → zWp (d + 2) 169 36 [(2, 1), (0, x1), (0, x2), (0, st), (0, 8 - (m : Int))] [] (zTS c h) (zQ 1 R X) := by
  intro m
  induction m with
  | zero => exact fun _ k => b_169_36 ht ⟨fun _ => k, fun q => by omega⟩
  | succ m ih =>
    intro hm k
    have h1 := pow_r hst.1 hst.2 (k := 7 - m) (by omega)
    have e : (8 - ((m + 1 : Nat) : Int)).toNat = 7 - m := by omega
    rw [mHf] at k
    refine b_169_36 ht ⟨fun q => by omega, fun _ => s_164 hst (by omega) (s_164 (by omega) (by omega) ?_)⟩
    rw [e, w64_e (by omega) (by omega)]
    refine ⟨fun q => ?_, fun q => ?_⟩
    · rw [if_neg (by omega)] at k
      have := ih (by omega) k
      rw [w32_e (by omega) (by omega), show 8 - ((m + 1 : Nat) : Int) + 1 = 8 - (m : Int) by omega]
      exact this
    · rw [if_pos q] at k
      rw [show 8 - ((m + 1 : Nat) : Int) = 7 - (m : Int) by omega]
      exact k
theorem s_302_34 {d c : Nat} {h : zH} {R : Int → Nat → zH → Prop} {X : Nat → Nat → zH → Prop} {kk s : Int} {r : zH} (mr : mRoad h r) (wr : wRoad r) (hk : 0 ≤ kk ∧ kk < r 0 3) (hs : 0 ≤ s ∧ s ≤ 18) : ∀ m : Nat, m ≤ 7 → R (mHf (16 - mLs r kk s) m) c h → zWp (d + 2) 302 34 [(2, 113), (0, kk), (0, s), (0, 8 - (m : Int))] [] (zTS c h) (zQ 1 R X) := by
  intro m
  have hlo := mLs_r r kk s
  induction m with
  | zero => exact fun _ k => b_302_34 ⟨fun _ => k, fun q => by omega⟩
  | succ m ih =>
    intro hm k
    have h1 := pow_r (b := 16 - mLs r kk s) (by omega) (by omega) (k := 7 - m) (by omega)
    have e : (8 - ((m + 1 : Nat) : Int)).toNat = 7 - m := by omega
    rw [mHf] at k
    refine b_302_34 ⟨fun q => by omega, fun _ => s_299 mr wr hk hs (by omega) (s_298 (by omega) (by omega) ?_)⟩
    rw [e, w64_e (by omega) (by omega)]
    refine ⟨fun q => ?_, fun q => ?_⟩
    · rw [if_neg (by omega)] at k
      have := ih (by omega) k
      rw [w32_e (by omega) (by omega), show 8 - ((m + 1 : Nat) : Int) + 1 = 8 - (m : Int) by omega]
      exact this
    · rw [if_pos q] at k
      rw [show 8 - ((m + 1 : Nat) : Int) = 7 - (m : Int) by omega]
      exact k
/-- the nut that comes loose most easily, the first of the first n -/
def mEas (r : zH) (s : Int) : Nat → Int
  | 0 => -1
  | n + 1 => if mEas r s n = -1 ∨ mLs r (mEas r s n) s < mLs r n s then n else mEas r s n
theorem mEas_r (r : zH) (s : Int) : ∀ n : Nat, mEas r s n = -1 ∨ (0 ≤ mEas r s n ∧ mEas r s n < n)
  | 0 => by simp [mEas]
  | n + 1 => by
    have := mEas_r r s n
    rw [mEas]
    split <;> omega
theorem s_171_15 {d c : Nat} {h : zH} {R : Int → Nat → zH → Prop} {X : Nat → Nat → zH → Prop} {t s : Int} {r : zH} (ht : zIsR t) (h5 : h 1 5 = t) (cr : cRoad t h r) (wr : wRoad r) (hs : 0 ≤ s ∧ s ≤ 18) (k : R (mEas r s (r 0 3).toNat) c h) : zWp (d + 2) 171 15 [(2, 1), (0, s), (0, (-1)), (0, (-1)), (0, 0)] [] (zTS c h) (zQ 1 R X) := by
  have hn := wr_n wr
  refine zDown (W := fun n => zWp (d + 2) 171 15 [(2, 1), (0, s), (0, mEas r s n), (0, if mEas r s n = -1 then -1 else mLs r (mEas r s n) s), (0, (n : Int))] [] (zTS c h) (zQ 1 R X)) (r 0 3).toNat ?_ ?_ 0 (Nat.zero_le _)
  · refine b_171_15 ht ⟨h5, fun _ => k, fun q => ?_⟩
    rw [cr_n cr] at q
    omega
  · intro n hn ih
    have hu := mEas_r r s n
    have ho := mLs_r r n s
    refine b_171_15 ht ⟨h5, fun q => ?_, fun _ => ⟨h5, s_165 ht cr wr (by omega) hs ⟨fun q => ?_, fun q => ⟨h5, s_165 ht cr wr (by omega) hs ?_⟩⟩⟩⟩
    · rw [cr_n cr] at q
      omega
    · rw [mEas, if_neg] at ih
      · rw [w32_s (by omega)]
        exact ih
      · intro w
        by_cases q2 : mEas r s n = -1
        · rw [if_pos q2] at q
          omega
        · rw [if_neg q2] at q
          omega
    · rw [mEas, if_pos] at ih
      · rw [if_neg (by omega)] at ih
        rw [w32_s (by omega)]
        exact ih
      · by_cases q2 : mEas r s n = -1
        · exact Or.inl q2
        · rw [if_neg q2] at q
          exact Or.inr q
theorem s_303_27 {d c : Nat} {h : zH} {R : Int → Nat → zH → Prop} {X : Nat → Nat → zH → Prop} {s : Int} {r : zH} (mr : mRoad h r) (wr : wRoad r) (hs : 0 ≤ s ∧ s ≤ 18) (k : R (mEas r s (r 0 3).toNat) c h) : zWp (d + 1) 303 27 [(2, 113), (0, s), (0, (-1)), (0, 0)] [] (zTS c h) (zQ 1 R X) := by
  have hn := wr_n wr
  refine zDown (W := fun n => zWp (d + 1) 303 27 [(2, 113), (0, s), (0, mEas r s n), (0, (n : Int))] [] (zTS c h) (zQ 1 R X)) (r 0 3).toNat ?_ ?_ 0 (Nat.zero_le _)
  · refine b_303_27 ⟨fun _ => k, fun q => ?_⟩
    rw [mr_n mr] at q
    omega
  · intro n hn ih
    have hu := mEas_r r s n
    refine b_303_27 ⟨fun q => ?_, fun _ => ⟨fun q => ?_, fun q => s_300 mr wr (by omega) hs (s_300 mr wr (by omega) hs ⟨fun q1 => ?_, fun q1 => ?_⟩)⟩⟩
    · rw [mr_n mr] at q
      omega
    · rw [mEas, if_pos (Or.inl q)] at ih
      rw [w32_s (by omega)]
      exact ih
    · rw [mEas, if_neg (by omega)] at ih
      rw [w32_s (by omega)]
      exact ih
    · rw [mEas, if_pos (Or.inr q1)] at ih
      rw [w32_s (by omega)]
      exact ih
