/-! the class: what is asked of a road and of a law -/
theorem w32_e {x : Int} (h1 : -2147483648 ≤ x) (h2 : x ≤ 2147483647) : w32 x = x := by
  unfold w32
  omega
theorem w32_s {n : Nat} (h : n < 2147483647) : w32 ((n : Int) + 1) = ((n + 1 : Nat) : Int) := by
  rw [w32_e (by omega) (by omega)]
  omega
theorem zDown {W : Nat → Prop} (N : Nat) (hN : W N) (hs : ∀ n, n < N → W (n + 1) → W n) : ∀ n, n ≤ N → W n := by
  have : ∀ m n, n + m = N → W n := by
    intro m
    induction m with
    | zero =>
      intro n e
      rw [show n = N by omega]
      exact hN
    | succ m ih =>
      intro n e
      exact hs n (by omega) (ih (n + 1) (by omega))
  intro n hn
  exact this (N - n) n (by omega)
theorem hw_eq {h : zH} {o k v o' k' : Int} (e : o' = o ∧ k' = k) : hw h o k v o' k' = v := by
  unfold hw
  rw [if_pos e]
theorem hw_ne {h : zH} {o k v o' k' : Int} (e : o' ≠ o ∨ k' ≠ k) : hw h o k v o' k' = h o' k' := by
  unfold hw
  rw [if_neg (by omega)]
def zbc (x : Int) : Int :=
  let a := w32 (x - (zAnd (zUsh x 1) 1431655765))
  let b := w32 ((zAnd a 858993459) + (zAnd (zUsh a 2) 858993459))
  let c := zAnd (w32 (b + (zUsh b 4))) 252645135
  let e := w32 (c + (zUsh c 8))
  zAnd (w32 (e + (zUsh e 16))) 63
theorem zbc_ok : ∀ n : Nat, n < 128 → zbc n = mOnes n := by decide +kernel
theorem s_24 {d c : Nat} {h : zH} {R : Int → Nat → zH → Prop} {X : Nat → Nat → zH → Prop} {x : Int} (h0 : 0 ≤ x) (h1 : x < 128) (k : R (mOnes x) c h) : zCl d 24 [(0, x)] c h R X := by
  refine b_24 (b_24_10 (x1 := 0) (b_24_24 (x1 := 0) (b_24_34 (x1 := 0) (b_24_41 (x1 := 0) (b_24_48 (x1 := 0) ?_)))))
  have := zbc_ok x.toNat (by omega)
  rw [Int.toNat_of_nonneg h0] at this
  show R (zbc x) c h
  rw [this]
  exact k
theorem mStr_b {r : zH} (wr : wRoad r) (x : Int) {n : Nat} (hn : n ≤ (r 0 0).toNat) : 0 ≤ mSum (fun p => zb x p * r 1 p) n ∧ mSum (fun p => zb x p * r 1 p) n ≤ 9 * n := by
  apply mSum_le
  intro k hk
  have hp := wr_p wr
  have h1 := wr_strong wr k (by omega) (by omega)
  rcases zb01 x k with e | e <;> simp only [e] <;> omega
theorem mStr_r {r : zH} (wr : wRoad r) (x : Int) : 0 ≤ mStr r x ∧ mStr r x ≤ 36 := by
  have := mStr_b wr x (Nat.le_refl _)
  have hp := wr_p wr
  unfold mStr
  omega
theorem s_25 {d c : Nat} {h : zH} {R : Int → Nat → zH → Prop} {X : Nat → Nat → zH → Prop} {t x : Int} {r : zH} (ht : zIsR t) (cr : cRoad t h r) (wr : wRoad r) (k : R (mStr r x) c h) : zCl (d + 1) 25 [(2, t), (0, x)] c h R X := by
  refine b_25 ht ?_
  have hp := wr_p wr
  refine zDown (W := fun n => zWp (d + 1) 25 4 [(2, t), (0, x), (0, mSum (fun p => zb x p * r 1 p) n), (0, (n : Int))] [] (zTS c h) (zQ 1 R X)) (r 0 0).toNat ?_ ?_ 0 (Nat.zero_le _)
  · refine b_25_4 ht ⟨fun _ => k, fun q => ?_⟩
    rw [cr_p cr] at q
    omega
  · intro n hn ih
    have hb := mStr_b wr x (n := n) (by omega)
    have h1 := wr_strong wr n (by omega) (by omega)
    refine b_25_4 ht ⟨fun q => ?_, fun _ => ⟨fun q => ?_, fun q => ⟨by omega, ?_⟩⟩⟩
    · rw [cr_p cr] at q
      omega
    · have e : zb x n = 0 := (zb01 x n).resolve_right q
      rw [mSum, e, Int.zero_mul, Int.add_zero] at ih
      rw [w32_s (by omega)]
      exact ih
    · have e : zb x n = 1 := q
      rw [mSum, e, Int.one_mul] at ih
      rw [w32_s (by omega), cr_strong cr n (by omega) (by omega), w32_e (by omega) (by omega)]
      exact ih
theorem s_23 {d c : Nat} {h : zH} {R : Int → Nat → zH → Prop} {X : Nat → Nat → zH → Prop} {t x e : Int} {r : zH} (ht : zIsR t) (cr : cRoad t h r) (wr : wRoad r) (hx : 0 ≤ x ∧ x < 128) (he : 0 ≤ e ∧ e < r 0 1) (k1 : mCan r x e → R 1 c h) (k0 : ¬ mCan r x e → R 0 c h) : zCl (d + 2) 23 [(2, t), (0, x), (0, e)] c h R X := by
  have hd := wr_d wr
  have hc := cr_deed cr e he.1 he.2
  refine b_23 ht (s_24 hx.1 hx.2 ⟨by omega, fun q => ?_, fun q => s_25 ht cr wr ⟨by omega, fun q1 => ?_, fun q1 => ?_⟩⟩)
  · rw [hc.2.2.1] at q
    exact k0 (fun w => q w.1)
  · rw [hc.2.2.2.1] at q1
    exact k0 (fun w => by have := w.2; omega)
  · rw [hc.2.2.2.1] at q1
    rw [hc.2.2.1] at q
    exact k1 ⟨q, q1⟩
theorem mDn_ge (E g : Int → Int) : ∀ n : Nat, mDn E g n = -1 ∨ 0 ≤ mDn E g n
  | 0 => by simp [mDn]
  | n + 1 => by
    have := mDn_ge E g n
    rw [mDn]
    unfold zMx
    split
    · omega
    · split
      · split
        · omega
        · split <;> omega
      · omega
theorem mDn_neg {E g : Int → Int} {n : Nat} (h : mDn E g n = -1) : ∀ m, n ≤ m → mDn E g m = -1 := by
  intro m hm
  induction m with
  | zero =>
    rw [show n = 0 by omega] at h
    exact h
  | succ m ih =>
    by_cases e : n = m + 1
    · rw [← e]
      exact h
    · rw [mDn, if_pos (ih (by omega))]
theorem mMx_ge (f g : Int → Int) : ∀ n : Nat, 0 ≤ mMx f g n
  | 0 => by simp [mMx]
  | n + 1 => by
    have := mMx_ge f g n
    rw [mMx]
    unfold zMx
    split
    · split <;> omega
    · omega
theorem mCan_dec (r : zH) (x d : Int) : mCan r x d ↔ (mOnes x = r 4 d ∧ r 5 d ≤ mStr r x) := Iff.rfl
/-- when people can begin a deed; -1: it is blocked -/
def mEar (r : zH) (E F : Int → Int) (d x : Int) : Int := if mOnes x = r 4 d ∧ r 5 d ≤ mStr r x then mBeg r E F d x else -1
theorem s_22 {d c : Nat} {h : zH} {R : Int → Nat → zH → Prop} {X : Nat → Nat → zH → Prop} {t x e : Int} {o3 o4 : Int} {r : zH} (ht : zIsR t) (ho3 : (zK o3).1 = 50 ∧ ((zK o3).2 : Int) = 12) (ho4 : (zK o4).1 = 50 ∧ ((zK o4).2 : Int) = 4) (cr : cRoad t h r) (wr : wRoad r) (hx : 0 ≤ x ∧ x < 128) (he : 0 ≤ e ∧ e < r 0 1) (k : R (mEar r (h o3) (h o4) e x) c h) : zCl (d + 3) 22 [(2, t), (0, e), (0, x), (2, o3), (2, o4)] c h R X := by
  have hd := wr_d wr
  have hp := wr_p wr
  have hc := cr_deed cr e he.1 he.2
  refine b_22 ht ho3 ho4 (s_23 ht cr wr hx he (fun q => ⟨fun _ => ?_, fun q1 => absurd q1 (by decide)⟩) (fun q => ⟨fun q1 => absurd rfl q1, fun _ => ?_⟩))
  · unfold mEar mBeg at k
    rw [if_pos q] at k
    refine zDown (W := fun n => mDn (h o3) (zb (r 6 e)) n ≠ -1 → zWp (d + 3) 22 17 [(2, t), (0, e), (0, x), (2, o3), (2, o4), (0, mDn (h o3) (zb (r 6 e)) n), (0, (n : Int))] [] (zTS c h) (zQ 1 R X)) e.toNat ?_ ?_ 0 (Nat.zero_le _) (by simp [mDn])
    · intro hne
      rw [if_neg hne] at k
      have hl : zWp (d + 3) 22 77 [(2, t), (0, e), (0, x), (2, o3), (2, o4), (0, mDn (h o3) (zb (r 6 e)) e.toNat), (0, 0)] [] (zTS c h) (zQ 1 R X) := by
        have h0 := (mDn_ge (h o3) (zb (r 6 e)) e.toNat).resolve_left hne
        have := zDown (W := fun n => zWp (d + 3) 22 77 [(2, t), (0, e), (0, x), (2, o3), (2, o4), (0, zMx (mDn (h o3) (zb (r 6 e)) e.toNat) (mMx (h o4) (zb x) n)), (0, (n : Int))] [] (zTS c h) (zQ 1 R X)) (r 0 0).toNat ?_ ?_ 0 (Nat.zero_le _)
        · have e0 : zMx (mDn (h o3) (zb (r 6 e)) e.toNat) (mMx (h o4) (zb x) 0) = mDn (h o3) (zb (r 6 e)) e.toNat := by
            unfold zMx mMx
            rw [if_neg (by omega)]
          rw [e0] at this
          exact this
        · refine b_22_77 ht ho3 ho4 ⟨fun _ => k, fun q => ?_⟩
          rw [cr_p cr] at q
          omega
        · intro n hn ih
          refine b_22_77 ht ho3 ho4 ⟨fun q => ?_, fun _ => ⟨fun q => ?_, fun _ => ⟨fun q => ?_, fun q => ⟨by omega, ?_⟩⟩⟩⟩
          · rw [cr_p cr] at q
            omega
          · omega
          · have e1 : zb x n ≠ 1 := q
            rw [mMx, if_neg e1] at ih
            rw [w32_s (by omega)]
            exact ih
          · have e1 : zb x n = 1 := q
            rw [mMx, if_pos e1] at ih
            rw [w32_s (by omega)]
            have e2 : (if zMx (mDn (h o3) (zb (r 6 e)) e.toNat) (mMx (h o4) (zb x) n) < h o4 n then h o4 n else zMx (mDn (h o3) (zb (r 6 e)) e.toNat) (mMx (h o4) (zb x) n)) = zMx (mDn (h o3) (zb (r 6 e)) e.toNat) (zMx (mMx (h o4) (zb x) n) (h o4 n)) := by
              unfold zMx
              repeat' split
              all_goals omega
            rw [e2]
            exact ih
      refine b_22_17 ht ho3 ho4 ⟨fun _ => hl, fun _ => ⟨fun _ => hl, fun _ => ?_⟩⟩
      omega
    · intro n hn ih hne
      refine b_22_17 ht ho3 ho4 ⟨fun q => by omega, fun _ => ⟨fun q => by omega, fun _ => ⟨by omega, fun q => ?_, fun q => ⟨by omega, fun q1 => ⟨by omega, ?_⟩, fun q1 => ?_⟩⟩⟩⟩
      · rw [hc.2.2.2.2.1] at q
        have e1 : zb (r 6 e) n ≠ 1 := q
        rw [mDn, if_neg hne, if_neg e1] at ih
        rw [w32_s (by omega)]
        exact ih hne
      · rw [hc.2.2.2.2.1] at q
        have e1 : zb (r 6 e) n = 1 := q
        rw [mDn, if_neg hne, if_pos e1, if_neg q1] at ih
        rw [w32_s (by omega)]
        refine ih ?_
        have := (mDn_ge (h o3) (zb (r 6 e)) n).resolve_left hne
        unfold zMx
        split <;> omega
      · rw [hc.2.2.2.2.1] at q
        have e1 : zb (r 6 e) n = 1 := q
        have e2 : mDn (h o3) (zb (r 6 e)) (n + 1) = -1 := by rw [mDn, if_neg hne, if_pos e1, if_pos q1]
        rw [mDn_neg e2 e.toNat (by omega), if_pos rfl] at k
        exact k
  · unfold mEar at k
    rw [if_neg q] at k
    exact k
theorem mRn_r {r : zH} (wr : wRoad r) (a b : Int) : 0 ≤ mRn r a b ∧ mRn r a b ≤ 241 := by
  unfold mRn
  split
  · omega
  · have h1 := mSum_mono (f := r 14) (n := (if 241 < a then 241 else a).toNat) (m := (if 241 < b then 241 else b).toNat) (by split <;> split <;> omega) (fun k hk => (wr_rain wr k (by omega) (by split at hk <;> omega)).1)
    have h2 := mSum_le (f := r 14) (b := 1) (n := (if 241 < b then 241 else b).toNat) (fun k hk => wr_rain wr k (by omega) (by split at hk <;> omega))
    have h3 := mSum_le (f := r 14) (b := 1) (n := (if 241 < a then 241 else a).toNat) (fun k hk => wr_rain wr k (by omega) (by split at hk <;> omega))
    have : ((if 241 < b then 241 else b).toNat : Int) ≤ 241 := by split <;> omega
    omega
theorem s_30 {d c : Nat} {h : zH} {R : Int → Nat → zH → Prop} {X : Nat → Nat → zH → Prop} {t a b : Int} {r : zH} (ht : zIsR t) (cr : cRoad t h r) (wr : wRoad r) (k : R (mRn r a b) c h) : zCl d 30 [(2, t), (0, a), (0, b)] c h R X := by
  have hb := mRn_r wr a b
  unfold mRn at k hb
  refine b_30 ht ⟨fun q => ?_, fun q => ⟨fun q1 => ⟨by split <;> omega, by split <;> omega, ?_⟩, fun q1 => ?_⟩⟩
  · rw [if_pos (Or.inl q)] at k
    exact k
  · rw [if_neg (by omega)] at k hb
    rw [cr_rain cr _ (by split <;> omega) (by split <;> omega), cr_rain cr _ (by split <;> omega) (by split <;> omega), w32_e (by omega) (by omega)]
    exact k
  · rw [if_pos (Or.inr q1)] at k
    exact k
theorem s_29 {d c : Nat} {h : zH} {R : Int → Nat → zH → Prop} {X : Nat → Nat → zH → Prop} {t e a b : Int} {r : zH} (ht : zIsR t) (cr : cRoad t h r) (wr : wRoad r) (he : 0 ≤ e ∧ e < r 0 1) (k : R (mWm r e a b) c h) : zCl (d + 1) 29 [(2, t), (0, e), (0, a), (0, b)] c h R X := by
  have hd := wr_d wr
  have hc := cr_deed cr e he.1 he.2
  unfold mWm at k
  refine b_29 ht ⟨by omega, fun q => s_30 ht cr wr ?_, fun q => ?_⟩
  · rw [hc.2.1] at q
    rw [if_neg q] at k
    exact k
  · rw [hc.2.1] at q
    rw [if_pos q] at k
    exact k
/-! laws -/
def mJoin (op a b : Int) : Int := if op = 1006 then w32 (a + b) else if op = 1007 then w32 (a - b) else if op = 1008 then w32 (a * b) else if op = 1009 then (if b = 0 then 0 else w32 (Int.tdiv a b)) else if op = 1010 then (if a < b then a else b) else (if b < a then a else b)
def mTop (f : Int → Int) : Nat → Int
  | 0 => 0
  | n + 1 => if 1006 ≤ f n then mTop f n - 1 else mTop f n + 1
def mStk (f F : Int → Int) : Nat → Int → Int
  | 0 => fun _ => 0
  | n + 1 => fun j => if 1006 ≤ f n then (if j = mTop f n - 2 then mJoin (f n) (mStk f F n (mTop f n - 2)) (mStk f F n (mTop f n - 1)) else mStk f F n j) else (if j = mTop f n then (if f n < 1000 then f n else F (f n - 1000)) else mStk f F n j)
theorem mStk_s (f F : Int → Int) (n : Nat) (j : Int) : mStk f F (n + 1) j = if 1006 ≤ f n then (if j = mTop f n - 2 then mJoin (f n) (mStk f F n (mTop f n - 2)) (mStk f F n (mTop f n - 1)) else mStk f F n j) else (if j = mTop f n then (if f n < 1000 then f n else F (f n - 1000)) else mStk f F n j) := rfl
/-- a law of n steps f: bounds, and no step takes more than there is -/
def wLaw (f : Int → Int) (n : Nat) : Prop := (1 ≤ n ∧ n ≤ 150) ∧ (∀ k : Nat, k < n → 0 ≤ f k ∧ f k ≤ 1011 ∧ (1006 ≤ f k → 2 ≤ mTop f k)) ∧ mTop f n = 1
def cLaw (l : Int) (h : zH) (f : Int → Int) (n : Nat) : Prop := h l 3 = n ∧ ∀ k : Int, 0 ≤ k → k < n → h (l + 1) k = f k
theorem mTop_r {f : Int → Int} {N : Nat} (w : wLaw f N) : ∀ n : Nat, n ≤ N → 0 ≤ mTop f n ∧ mTop f n ≤ n
  | 0, _ => by simp [mTop]
  | n + 1, h => by
    have h1 := mTop_r w n (by omega)
    have h2 := w.2.1 n (by omega)
    rw [mTop]
    split
    · have := h2.2.2 (by assumption)
      omega
    · omega
theorem s_33 {d c : Nat} {h : zH} {R : Int → Nat → zH → Prop} {X : Nat → Nat → zH → Prop} {op a b : Int} (k : R (mJoin op a b) c h) : zCl d 33 [(0, op), (0, a), (0, b)] c h R X := by
  unfold mJoin at k
  refine b_33 ⟨fun q => ?_, fun q => ⟨fun q1 => ?_, fun q1 => ⟨fun q2 => ?_, fun q2 => ⟨fun q3 => ⟨fun q4 => ⟨q4, ?_⟩, fun q4 => ?_⟩, fun q3 => ⟨fun q4 => ⟨fun q5 => ?_, fun q5 => ?_⟩, fun q4 => ⟨fun q5 => ?_, fun q5 => ?_⟩⟩⟩⟩⟩⟩
  · rw [if_pos q] at k; exact k
  · rw [if_neg q, if_pos q1] at k; exact k
  · rw [if_neg q, if_neg q1, if_pos q2] at k; exact k
  · rw [if_neg q, if_neg q1, if_neg q2, if_pos q3, if_neg q4] at k; exact k
  · rw [if_neg q, if_neg q1, if_neg q2, if_pos q3, if_pos q4] at k; exact k
  · rw [if_neg q, if_neg q1, if_neg q2, if_neg q3, if_pos q4, if_neg (by omega)] at k; exact k
  · rw [if_neg q, if_neg q1, if_neg q2, if_neg q3, if_pos q4, if_pos q5] at k; exact k
  · rw [if_neg q, if_neg q1, if_neg q2, if_neg q3, if_neg q4, if_neg (by omega)] at k; exact k
  · rw [if_neg q, if_neg q1, if_neg q2, if_neg q3, if_neg q4, if_pos q5] at k; exact k
theorem s_32 {d c : Nat} {h : zH} {R : Int → Nat → zH → Prop} {X : Nat → Nat → zH → Prop} {l : Int} {f F : Int → Int} {N : Nat} (hl : zIsL l) (cl : cLaw l h f N) (wl : wLaw f N) (hF : ∀ j : Int, 0 ≤ j → j < 6 → h (l + 3) j = F j) (k : ∀ h', (∀ o j, o ≠ l + 2 → h' o j = h o j) → R (mStk f F N 0) c h') : zCl (d + 1) 32 [(2, l)] c h R X := by
  refine b_32 hl ?_
  refine zDown (W := fun n => ∀ h', (∀ o j, o ≠ l + 2 → h' o j = h o j) → (∀ j : Int, 0 ≤ j → j < mTop f n → h' (l + 2) j = mStk f F n j) → zWp (d + 1) 32 4 [(2, l), (0, mTop f n), (0, (n : Int)), (9, 0)] [] (zTS c h') (zQ 1 R X)) N ?_ ?_ 0 (Nat.zero_le _) h (fun _ _ _ => rfl) (fun j h1 h2 => by simp [mTop] at h2; omega)
  · intro h' fr hs
    refine b_32_4 hl ⟨fun _ => ?_, fun q => ?_⟩
    · rw [hs 0 (by omega) (by rw [wl.2.2]; omega)]
      exact k h' fr
    · rw [fr l 3 (by omega), cl.1] at q
      omega
  · intro n hn ih h' fr hs
    have hN := wl.1
    have hr := mTop_r wl n (by omega)
    have hf := wl.2.1 n hn
    have e1 : h' (l + 1) n = f n := by
      rw [fr _ _ (by omega)]
      exact cl.2 n (by omega) (by omega)
    have e2 : h' l 3 = N := by
      rw [fr _ _ (by omega)]
      exact cl.1
    refine b_32_4 hl ⟨fun q => by omega, fun _ => ⟨by omega, fun q => ⟨fun q1 => by omega, fun q1 => ⟨fun q2 => ?_, fun q2 => ⟨by omega, ?_⟩⟩⟩, fun q => ⟨fun q1 => ?_, fun q1 => ?_⟩⟩⟩
    · rw [e1] at q q2
      have e3 : w32 (h' (l + 1) n - 1000) = f n - 1000 := by rw [e1, w32_e (by omega) (by omega)]
      rw [e3]
      refine ⟨by omega, by omega, ?_⟩
      have e4 : mTop f (n + 1) = mTop f n + 1 := by rw [mTop, if_neg (by omega)]
      have := ih (hw h' (l + 2) (mTop f n) (h' (l + 3) (f n - 1000))) (fun o j ho => by rw [hw_ne (Or.inl ho), fr o j ho]) (fun j h1 h2 => by
        rw [mStk_s, if_neg (by omega)]
        by_cases ej : j = mTop f n
        · rw [hw_eq ⟨rfl, ej⟩, if_pos ej, if_neg (by omega), fr _ _ (by omega), hF _ (by omega) (by omega)]
        · rw [hw_ne (Or.inr ej), if_neg ej, hs j h1 (by omega)])
      rw [e4] at this
      rw [w32_s (by omega), w32_e (by omega) (by omega)]
      exact this
    · rw [e1] at q q2
      have e4 : mTop f (n + 1) = mTop f n + 1 := by rw [mTop, if_neg (by omega)]
      have := ih (hw h' (l + 2) (mTop f n) (h' (l + 1) n)) (fun o j ho => by rw [hw_ne (Or.inl ho), fr o j ho]) (fun j h1 h2 => by
        rw [mStk_s, if_neg (by omega)]
        by_cases ej : j = mTop f n
        · rw [hw_eq ⟨rfl, ej⟩, if_pos ej, if_pos (by omega), e1]
        · rw [hw_ne (Or.inr ej), if_neg ej, hs j h1 (by omega)])
      rw [e4] at this
      rw [w32_s (by omega), w32_e (by omega) (by omega)]
      exact this
    · rw [e1] at q
      have := hf.2.2 q
      omega
    · rw [e1] at q
      have hf2 := hf.2.2 q
      have e4 : mTop f (n + 1) = mTop f n - 1 := by rw [mTop, if_pos q]
      have e5 : w32 (mTop f n + (-1)) = mTop f n - 1 := by rw [w32_e (by omega) (by omega)]; omega
      have e6 : w32 (w32 (mTop f n + (-1)) - 1) = mTop f n - 2 := by rw [e5, w32_e (by omega) (by omega)]; omega
      rw [e6, e5]
      refine ⟨by omega, by omega, s_33 ⟨by omega, ?_⟩⟩
      have := ih (hw h' (l + 2) (mTop f n - 2) (mJoin (f n) (mStk f F n (mTop f n - 2)) (mStk f F n (mTop f n - 1)))) (fun o j ho => by rw [hw_ne (Or.inl ho), fr o j ho]) (fun j h1 h2 => by
        rw [mStk_s, if_pos q]
        by_cases ej : j = mTop f n - 2
        · rw [hw_eq ⟨rfl, ej⟩, if_pos ej]
        · rw [hw_ne (Or.inr ej), if_neg ej, hs j h1 (by omega)])
      rw [e4] at this
      rw [w32_s (by omega), e1, hs _ (by omega) (by omega), hs _ (by omega) (by omega)]
      exact this
def zCla (v : Int) : Int := if 1 < (if v < 99 then v else 99) then (if v < 99 then v else 99) else 1
theorem zCla_r (v : Int) : 1 ≤ zCla v ∧ zCla v ≤ 99 := by
  unfold zCla
  split <;> split <;> omega
theorem s_31 {d c : Nat} {h : zH} {R : Int → Nat → zH → Prop} {X : Nat → Nat → zH → Prop} {l x1 x2 x3 x4 x5 x6 : Int} {f F : Int → Int} {N : Nat} (hl : zIsL l) (cl : cLaw l h f N) (wl : wLaw f N) (h1 : F 0 = x1) (h2 : F 1 = x2) (h3 : F 2 = x3) (h4 : F 3 = x4) (h5 : F 4 = x5) (h6 : F 5 = x6) (k : ∀ h', (∀ o j, o ≠ l + 2 → o ≠ l + 3 → h' o j = h o j) → R (zCla (mStk f F N 0)) c h') : zCl (d + 2) 31 [(2, l), (0, x1), (0, x2), (0, x3), (0, x4), (0, x5), (0, x6)] c h R X := by
  refine b_31 hl (s_32 hl (F := F) (f := f) (N := N) ⟨?_, fun j h1 h2 => ?_⟩ wl (fun j g1 g2 => ?_) (fun h' fr => k h' (fun o j o1 o2 => ?_)))
  · rw [hw_ne (by omega), hw_ne (by omega), hw_ne (by omega), hw_ne (by omega), hw_ne (by omega), hw_ne (by omega)]
    exact cl.1
  · rw [hw_ne (by omega), hw_ne (by omega), hw_ne (by omega), hw_ne (by omega), hw_ne (by omega), hw_ne (by omega)]
    exact cl.2 j h1 h2
  · rcases (by omega : j = 0 ∨ j = 1 ∨ j = 2 ∨ j = 3 ∨ j = 4 ∨ j = 5) with e | e | e | e | e | e <;> subst e
    · rw [hw_ne (by omega), hw_ne (by omega), hw_ne (by omega), hw_ne (by omega), hw_ne (by omega), hw_eq ⟨rfl, rfl⟩, h1]
    · rw [hw_ne (by omega), hw_ne (by omega), hw_ne (by omega), hw_ne (by omega), hw_eq ⟨rfl, rfl⟩, h2]
    · rw [hw_ne (by omega), hw_ne (by omega), hw_ne (by omega), hw_eq ⟨rfl, rfl⟩, h3]
    · rw [hw_ne (by omega), hw_ne (by omega), hw_eq ⟨rfl, rfl⟩, h4]
    · rw [hw_ne (by omega), hw_eq ⟨rfl, rfl⟩, h5]
    · rw [hw_eq ⟨rfl, rfl⟩, h6]
  · rw [fr o j o1, hw_ne (by omega), hw_ne (by omega), hw_ne (by omega), hw_ne (by omega), hw_ne (by omega), hw_ne (by omega)]
/-- the facts of a deed; how long it lasts -/
def mFa (r : zH) (e x b : Int) : Int → Int := fun j => if j = 0 then r 2 e else if j = 1 then r 4 e else if j = 2 then mStr r x else if j = 3 then mWm r e b (b + 1) else if j = 4 then b else r 3 e
def mLf (r : zH) (f : Int → Int) (N : Nat) (e x b : Int) : Int := zCla (mStk f (mFa r e x b) N 0)
theorem s_28 {d c : Nat} {h : zH} {R : Int → Nat → zH → Prop} {X : Nat → Nat → zH → Prop} {l t e x b : Int} {r : zH} {f : Int → Int} {N : Nat} (hl : zIsL l) (ht : zIsR t) (cr : cRoad t h r) (wr : wRoad r) (cl : cLaw l h f N) (wl : wLaw f N) (he : 0 ≤ e ∧ e < r 0 1) (hb : 0 ≤ b ∧ b < 1000000) (k : ∀ h', (∀ o j, o ≠ l + 2 → o ≠ l + 3 → h' o j = h o j) → R (mLf r f N e x b) c h') : zCl (d + 3) 28 [(2, l), (2, t), (0, e), (0, x), (0, b)] c h R X := by
  have hd := wr_d wr
  have hc := cr_deed cr e he.1 he.2
  refine b_28 hl ht (s_29 ht cr wr he ⟨by omega, by omega, s_25 ht cr wr ⟨by omega, ?_⟩⟩)
  refine s_31 hl (F := mFa r e x b) cl wl ?_ ?_ ?_ ?_ ?_ ?_ (fun h' fr => k h' fr)
  · rw [hc.1]; rfl
  · rw [hc.2.2.1]; rfl
  · rfl
  · rw [w32_e (by omega) (by omega)]; rfl
  · rfl
  · rw [hc.2.1]; rfl
