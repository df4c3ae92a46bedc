/-! causes -/
def cBook (b : Int) (h : zH) (s : Int → Int) (n : Int) : Prop := h b 1 = n ∧ ∀ k : Int, 0 ≤ k → k < 3 → h (b + 1) k = s k
def mBook (h : zH) (s : Int → Int) (n : Int) : Prop := h 113 50 = n ∧ ∀ k : Int, 0 ≤ k → k < 3 → h 141 k = s k
def mLk (r : zH) (c k v : Int) : Int := if v = 1 then r (11 + k) c else 16 - r (11 + k) c
def mWt (r : zH) (s : Int → Int) (c : Int) : Nat → Int
  | 0 => r 10 c
  | k + 1 => if s k = -1 then mWt r s c k else mWt r s c k * mLk r c k (s k)
theorem cs_r {r : zH} (wr : wRoad r) {c k : Int} (hc : 0 ≤ c ∧ c < r 0 4) (hk : 0 ≤ k ∧ k < 3) : 0 ≤ r (11 + k) c ∧ r (11 + k) c ≤ 16 := by
  have h1 := wr_cause wr c hc.1 hc.2
  rcases (by omega : k = 0 ∨ k = 1 ∨ k = 2) with e | e | e <;> subst e
  · exact h1.2.1
  · exact h1.2.2.1
  · exact h1.2.2.2
theorem mLk_r {r : zH} (wr : wRoad r) {c k : Int} (v : Int) (hc : 0 ≤ c ∧ c < r 0 4) (hk : 0 ≤ k ∧ k < 3) : 0 ≤ mLk r c k v ∧ mLk r c k v ≤ 16 := by
  have := cs_r wr hc hk
  unfold mLk
  split <;> omega
theorem mWt_r {r : zH} (wr : wRoad r) {c : Int} (s : Int → Int) (hc : 0 ≤ c ∧ c < r 0 4) : ∀ k : Nat, k ≤ 3 → 0 ≤ mWt r s c k ∧ mWt r s c k ≤ 16 * 16 ^ k
  | 0, _ => by
    have h1 := wr_cause wr c hc.1 hc.2
    rw [mWt]
    omega
  | k + 1, hk => by
    have h1 := mWt_r wr s hc k (by omega)
    have h2 := mLk_r wr (s k) hc (show 0 ≤ (k : Int) ∧ (k : Int) < 3 by omega)
    have h3 := mul_r h1.1 h1.2 h2.1 h2.2
    rw [mWt]
    rw [show 16 * (16 : Int) ^ (k + 1) = 16 * 16 ^ k * 16 by rw [Int.pow_succ, Int.mul_assoc]]
    split
    · have : 0 ≤ (16 : Int) * 16 ^ k := by omega
      omega
    · exact h3
theorem mWt3_r {r : zH} (wr : wRoad r) {c : Int} (s : Int → Int) (hc : 0 ≤ c ∧ c < r 0 4) {k : Nat} (hk : k ≤ 3) : 0 ≤ mWt r s c k ∧ mWt r s c k ≤ 65536 := by
  have h1 := mWt_r wr s hc k hk
  have h2 := (pow_r (b := 0) (k := k) (by omega) (by omega) (by omega)).2.2
  have h3 : (16 : Int) ^ k ≤ 16 ^ 3 := by
    have : (16 : Nat) ^ k ≤ 16 ^ 3 := Nat.pow_le_pow_right (by decide) hk
    exact_mod_cast this
  have h4 : (16 : Int) ^ 3 = 4096 := by decide
  omega
theorem mWt_congr {r : zH} {s s' : Int → Int} {c : Int} : ∀ k : Nat, (∀ j : Nat, j < k → s j = s' j) → mWt r s c k = mWt r s' c k
  | 0, _ => rfl
  | k + 1, h => by rw [mWt, mWt, mWt_congr k (fun j hj => h j (by omega)), h k (by omega)]
theorem cRow {t : Int} {h r : zH} (cr : cRoad t h r) {c k : Int} (hc : 0 ≤ c ∧ c < r 0 4) (hk : 0 ≤ k ∧ k < 3) : h (t + 16 + (1 + k)) c = r (11 + k) c := by
  have h1 := cr_cause cr c hc.1 hc.2
  rcases (by omega : k = 0 ∨ k = 1 ∨ k = 2) with e | e | e <;> subst e
  · rw [show t + 16 + (1 + 0) = t + 17 by omega]; exact h1.2.1
  · rw [show t + 16 + (1 + 1) = t + 18 by omega]; exact h1.2.2.1
  · rw [show t + 16 + (1 + 2) = t + 19 by omega]; exact h1.2.2.2
theorem mRow {h r : zH} (mr : mRoad h r) {c k : Int} (hc : 0 ≤ c ∧ c < r 0 4) (hk : 0 ≤ k ∧ k < 3) : h 127 (4 * c + 1 + k) = r (11 + k) c := by
  have h1 := mr_cause mr c hc.1 hc.2
  rcases (by omega : k = 0 ∨ k = 1 ∨ k = 2) with e | e | e <;> subst e
  · rw [show 4 * c + 1 + 0 = 4 * c + 1 by omega]; exact h1.2.1
  · rw [show 4 * c + 1 + 1 = 4 * c + 2 by omega]; exact h1.2.2.1
  · rw [show 4 * c + 1 + 2 = 4 * c + 3 by omega]; exact h1.2.2.2
theorem s_46 {d c : Nat} {h : zH} {R : Int → Nat → zH → Prop} {X : Nat → Nat → zH → Prop} {t cc k v : Int} {r : zH} (ht : zIsR t) (cr : cRoad t h r) (wr : wRoad r) (hc : 0 ≤ cc ∧ cc < r 0 4) (hk : 0 ≤ k ∧ k < 3) (K : R (mLk r cc k v) c h) : zCl d 46 [(2, t), (0, cc), (0, k), (0, v)] c h R X := by
  have h1 := wr_c wr
  have h2 := cs_r wr hc hk
  refine b_46 ht ?_
  rw [w32_e (x := 1 + k) (by omega) (by omega), cRow cr hc hk]
  unfold mLk at K
  refine ⟨by omega, by omega, fun q => ?_, fun q => ?_⟩
  · rw [if_neg q] at K
    rw [w32_e (by omega) (by omega)]
    exact K
  · rw [if_pos q] at K
    exact K
theorem s_44 {d c : Nat} {h : zH} {R : Int → Nat → zH → Prop} {X : Nat → Nat → zH → Prop} {t b cc n : Int} {r : zH} {s : Int → Int} (ht : zIsR t) (hb : zIsB b) (cr : cRoad t h r) (wr : wRoad r) (cb : cBook b h s n) (hc : 0 ≤ cc ∧ cc < r 0 4) (K : R (mWt r s cc 3) c h) : zCl (d + 1) 44 [(2, b), (2, t), (0, cc)] c h R X := by
  have h1 := wr_c wr
  refine b_44 hb ht ⟨by omega, ?_⟩
  rw [(cr_cause cr cc hc.1 hc.2).1]
  refine zDown (W := fun m => zWp (d + 1) 44 12 [(2, b), (2, t), (0, cc), (0, mWt r s cc m), (0, (m : Int))] [] (zTS c h) (zQ 1 R X)) 3 ?_ ?_ 0 (Nat.zero_le _)
  · exact b_44_12 hb ht ⟨fun _ => K, fun q => by omega⟩
  · intro m hm ih
    have e1 := cb.2 m (by omega) (by omega)
    have a1 := mWt3_r wr s hc (show m + 1 ≤ 3 by omega)
    rw [mWt] at ih a1
    refine b_44_12 hb ht ⟨fun q => by omega, fun _ => b_45 hb ⟨by omega, fun q => ⟨fun _ => ?_, fun q1 => absurd rfl q1⟩, fun q => ⟨fun q1 => absurd q1 (by decide), fun _ => ⟨by omega, s_46 ht cr wr hc (by omega) ?_⟩⟩⟩⟩
    · rw [e1] at q
      rw [if_pos q] at ih
      rw [w32_s (by omega)]
      exact ih
    · rw [e1] at q
      rw [if_neg q] at ih a1
      rw [w32_s (by omega), e1, w32_e (by omega) (by omega)]
      exact ih
/-- the greatest of the first n, 0 if none is greater -/
def mMo (V : Int → Int) : Nat → Int
  | 0 => 0
  | n + 1 => zMx (mMo V n) (V n)
theorem mMo_congr {V V' : Int → Int} : ∀ {n : Nat}, (∀ k : Nat, k < n → V k = V' k) → mMo V n = mMo V' n
  | 0, _ => rfl
  | n + 1, h => by rw [mMo, mMo, mMo_congr (fun k hk => h k (by omega)), h n (by omega)]
theorem mMo_r {V : Int → Int} {b : Int} (hb : 0 ≤ b) : ∀ {n : Nat}, (∀ k : Nat, k < n → V k ≤ b) → 0 ≤ mMo V n ∧ mMo V n ≤ b
  | 0, _ => by simp [mMo, hb]
  | n + 1, h => by
    have h1 := mMo_r hb (n := n) (V := V) (fun k hk => h k (by omega))
    have h2 := h n (by omega)
    rw [mMo]
    unfold zMx
    split <;> omega
theorem s_48 {d c : Nat} {h : zH} {R : Int → Nat → zH → Prop} {X : Nat → Nat → zH → Prop} {t b k v n : Int} {r : zH} {s : Int → Int} (ht : zIsR t) (hb : zIsB b) (cr : cRoad t h r) (wr : wRoad r) (cb : cBook b h s n) (hk : 0 ≤ k ∧ k < 3) (K : R (mMo (fun c => mWt r s c 3 * mLk r c k v) (r 0 4).toNat) c h) : zCl (d + 2) 48 [(2, b), (2, t), (0, k), (0, v)] c h R X := by
  have h1 := wr_c wr
  refine b_48 hb ht ?_
  refine zDown (W := fun m => zWp (d + 2) 48 6 [(2, b), (2, t), (0, k), (0, v), (0, mMo (fun c => mWt r s c 3 * mLk r c k v) m), (0, (m : Int))] [] (zTS c h) (zQ 1 R X)) (r 0 4).toNat ?_ ?_ 0 (Nat.zero_le _)
  · refine b_48_6 hb ht ⟨fun _ => K, fun q => ?_⟩
    rw [cr_c cr] at q
    omega
  · intro m hm ih
    have a1 := mWt3_r wr s (c := m) (by omega) (Nat.le_refl 3)
    have a2 := mLk_r wr v (c := m) (by omega) hk
    have a3 := mul_r a1.1 a1.2 a2.1 a2.2
    refine b_48_6 hb ht ⟨fun q => ?_, fun _ => s_44 ht hb cr wr cb (by omega) (s_46 ht cr wr (by omega) hk ?_)⟩
    · rw [cr_c cr] at q
      omega
    · rw [w32_s (by omega), w32_e (by omega) (by omega)]
      exact ih
theorem s_317 {d c : Nat} {h : zH} {R : Int → Nat → zH → Prop} {X : Nat → Nat → zH → Prop} {cc k v n : Int} {r : zH} {s s' : Int → Int} (mr : mRoad h r) (wr : wRoad r) (mb : mBook h s n) (hc : 0 ≤ cc ∧ cc < r 0 4) (hs : ∀ j : Int, 0 ≤ j → j < 3 → s' j = if j = k then v else s j) (K : R (mWt r s' cc 3) c h) : zCl d 317 [(2, 113), (0, cc), (0, k), (0, v)] c h R X := by
  have h1 := wr_c wr
  have e4 : w32 (4 * cc) = 4 * cc := w32_e (by omega) (by omega)
  refine b_317 ?_
  rw [e4, (mr_cause mr cc hc.1 hc.2).1]
  refine ⟨by omega, ?_⟩
  refine zDown (W := fun m => zWp d 317 14 [(2, 113), (0, cc), (0, k), (0, v), (1, mWt r s' cc m), (9, 0), (0, (m : Int)), (9, 0)] [] (zTS c h) (zQ 3 R X)) 3 ?_ ?_ 0 (Nat.zero_le _)
  · exact b_317_14 ⟨fun _ => K, fun q => by omega⟩
  · intro m hm ih
    have e1 := mb.2 m (by omega) (by omega)
    have e2 := hs m (by omega) (by omega)
    have a1 := mWt3_r wr s' hc (show m + 1 ≤ 3 by omega)
    have e5 : w32 (w32 (w32 (4 * cc) + 1) + (m : Int)) = 4 * cc + 1 + m := by rw [e4, w32_e (x := 4 * cc + 1) (by omega) (by omega), w32_e (by omega) (by omega)]
    have a2 := cs_r wr hc (show 0 ≤ (m : Int) ∧ (m : Int) < 3 by omega)
    rw [mWt] at ih a1
    refine b_317_14 ?_
    rw [e5, mRow mr hc (by omega), w32_s (by omega), e1, w32_e (x := 16 - r (11 + (m : Int)) cc) (by omega) (by omega)]
    refine ⟨fun q => by omega, fun _ => ⟨fun q => ⟨by omega, fun q1 => ⟨fun q2 => ⟨by omega, ?_⟩, fun q2 => ⟨by omega, ?_⟩⟩, fun q1 => ?_⟩, fun q => ⟨fun q1 => ⟨fun q2 => ⟨by omega, ?_⟩, fun q2 => ⟨by omega, ?_⟩⟩, fun q1 => ?_⟩⟩⟩
    · rw [if_neg q] at e2
      rw [e2, if_neg q1] at ih a1
      unfold mLk at ih a1
      rw [if_neg q2] at ih a1
      rw [w64_e (by omega) (by omega)]
      exact ih
    · rw [if_neg q] at e2
      rw [e2, if_neg q1] at ih a1
      unfold mLk at ih a1
      rw [if_pos q2] at ih a1
      rw [w64_e (by omega) (by omega)]
      exact ih
    · rw [if_neg q] at e2
      rw [e2, if_pos q1] at ih
      exact ih
    · rw [if_pos q] at e2
      rw [e2, if_neg q1] at ih a1
      unfold mLk at ih a1
      rw [if_neg q2] at ih a1
      rw [w64_e (by omega) (by omega)]
      exact ih
    · rw [if_pos q] at e2
      rw [e2, if_neg q1] at ih a1
      unfold mLk at ih a1
      rw [if_pos q2] at ih a1
      rw [w64_e (by omega) (by omega)]
      exact ih
    · rw [if_pos q] at e2
      rw [e2, if_pos q1] at ih
      exact ih
theorem s_319 {d c : Nat} {h : zH} {R : Int → Nat → zH → Prop} {X : Nat → Nat → zH → Prop} {k v n : Int} {r : zH} {s s' : Int → Int} (mr : mRoad h r) (wr : wRoad r) (mb : mBook h s n) (hs : ∀ j : Int, 0 ≤ j → j < 3 → s' j = if j = k then v else s j) (K : R (mMo (fun c => mWt r s' c 3) (r 0 4).toNat) c h) : zCl (d + 1) 319 [(2, 113), (0, k), (0, v)] c h R X := by
  have h1 := wr_c wr
  refine b_319 ?_
  refine zDown (W := fun m => zWp (d + 1) 319 5 [(2, 113), (0, k), (0, v), (1, mMo (fun c => mWt r s' c 3) m), (9, 0), (0, (m : Int))] [] (zTS c h) (zQ 3 R X)) (r 0 4).toNat ?_ ?_ 0 (Nat.zero_le _)
  · refine b_319_5 ⟨fun _ => K, fun q => ?_⟩
    rw [mr_c mr] at q
    omega
  · intro m hm ih
    rw [mMo] at ih
    unfold zMx at ih
    refine b_319_5 ⟨fun q => ?_, fun _ => s_317 mr wr mb (by omega) hs ⟨fun q => ?_, fun q => s_317 mr wr mb (by omega) hs ?_⟩⟩
    · rw [mr_c mr] at q
      omega
    · rw [if_neg (by omega)] at ih
      rw [w32_s (by omega)]
      exact ih
    · rw [if_pos q] at ih
      rw [w32_s (by omega)]
      exact ih
theorem mWt_upd {r : zH} {s s' : Int → Int} {c k v : Int} (hk : 0 ≤ k ∧ k < 3) (h0 : s k = -1) (hv : v ≠ -1) (hs : ∀ j : Int, 0 ≤ j → j < 3 → s' j = if j = k then v else s j) : mWt r s' c 3 = mWt r s c 3 * mLk r c k v := by
  have a0 := hs 0 (by omega) (by omega)
  have a1 := hs 1 (by omega) (by omega)
  have a2 := hs 2 (by omega) (by omega)
  have u : ∀ s : Int → Int, mWt r s c 3 = if s 2 = -1 then (if s 1 = -1 then (if s 0 = -1 then r 10 c else r 10 c * mLk r c 0 (s 0)) else (if s 0 = -1 then r 10 c else r 10 c * mLk r c 0 (s 0)) * mLk r c 1 (s 1)) else (if s 1 = -1 then (if s 0 = -1 then r 10 c else r 10 c * mLk r c 0 (s 0)) else (if s 0 = -1 then r 10 c else r 10 c * mLk r c 0 (s 0)) * mLk r c 1 (s 1)) * mLk r c 2 (s 2) := fun _ => rfl
  rw [u, u]
  rcases (by omega : k = 0 ∨ k = 1 ∨ k = 2) with e | e | e <;> subst e
  · rw [if_pos rfl] at a0
    rw [if_neg (by decide)] at a1 a2
    rw [a0, a1, a2, h0, if_neg hv, if_pos rfl]
    generalize mLk r c 0 v = x
    generalize mLk r c 1 (s 1) = y
    generalize mLk r c 2 (s 2) = z
    repeat' split
    all_goals grind
  · rw [if_pos rfl] at a1
    rw [if_neg (by decide)] at a0 a2
    rw [a0, a1, a2, h0, if_neg hv, if_pos rfl]
    generalize mLk r c 1 v = x
    generalize mLk r c 0 (s 0) = y
    generalize mLk r c 2 (s 2) = z
    repeat' split
    all_goals grind
  · rw [if_pos rfl] at a2
    rw [if_neg (by decide)] at a0 a1
    rw [a0, a1, a2, h0, if_neg hv, if_pos rfl]
/-- the likeliest cause: the first of the first n that is the greatest, if that is greater than 0 -/
def mLb (V : Int → Int) : Nat → Int
  | 0 => -1
  | n + 1 => if mMo V n < V n then n else mLb V n
theorem mLb_r (V : Int → Int) : ∀ n : Nat, (mLb V n = -1 ∧ mMo V n = 0) ∨ (0 ≤ mLb V n ∧ mLb V n < n ∧ V (mLb V n) = mMo V n ∧ 0 < mMo V n ∧ ∀ j : Int, 0 ≤ j → j < mLb V n → V j < mMo V n)
  | 0 => by simp [mLb, mMo]
  | n + 1 => by
    have h1 := mLb_r V n
    have h2 : ∀ k : Nat, k < n → V k ≤ mMo V n := by
      intro k hk
      have : ∀ m : Nat, k < m → V k ≤ mMo V m := by
        intro m
        induction m with
        | zero => omega
        | succ m ih =>
          intro hm
          rw [mMo]
          unfold zMx
          by_cases e : k = m
          · subst e
            split <;> omega
          · have := ih (by omega)
            split <;> omega
      exact this n hk
    have h0 : 0 ≤ mMo V n := by rcases h1 with h | h <;> omega
    rw [mLb, mMo]
    unfold zMx
    by_cases q : mMo V n < V n
    · rw [if_pos q, if_pos q]
      refine Or.inr ⟨by omega, by omega, rfl, by omega, fun j j0 j1 => ?_⟩
      have := h2 j.toNat (by omega)
      rw [Int.toNat_of_nonneg j0] at this
      omega
    · rw [if_neg q, if_neg q]
      rcases h1 with h | ⟨a, b, e, f, g⟩
      · exact Or.inl h
      · exact Or.inr ⟨a, by omega, e, f, g⟩
theorem s_42 {d c : Nat} {h : zH} {R : Int → Nat → zH → Prop} {X : Nat → Nat → zH → Prop} {t b n : Int} {r : zH} {s : Int → Int} (ht : zIsR t) (hb : zIsB b) (h5 : h 1 5 = t) (h11 : h 1 11 = b) (cr : cRoad t h r) (wr : wRoad r) (cb : cBook b h s n) (K : R (mLb (fun c => mWt r s c 3) (r 0 4).toNat) c h) : zCl (d + 2) 42 [(2, 1)] c h R X := by
  have h1 := wr_c wr
  refine b_42 ht hb ?_
  refine zDown (W := fun m => zWp (d + 2) 42 6 [(2, 1), (0, mLb (fun c => mWt r s c 3) m), (0, mMo (fun c => mWt r s c 3) m), (0, (m : Int)), (9, 0)] [] (zTS c h) (zQ 1 R X)) (r 0 4).toNat ?_ ?_ 0 (Nat.zero_le _)
  · refine b_42_6 ht hb ⟨h5, fun _ => K, fun q => ?_⟩
    rw [cr_c cr] at q
    omega
  · intro m hm ih
    rw [mMo, mLb] at ih
    unfold zMx at ih
    refine b_42_6 ht hb ⟨h5, fun q => ?_, fun _ => ⟨h11, h5, s_44 ht hb cr wr cb (by omega) ⟨fun q => ?_, fun q => ?_⟩⟩⟩
    · rw [cr_c cr] at q
      omega
    · rw [if_neg (by omega), if_neg (by omega)] at ih
      rw [w32_s (by omega)]
      exact ih
    · rw [if_pos q, if_pos q] at ih
      rw [w32_s (by omega)]
      exact ih
theorem s_318 {d c : Nat} {h : zH} {R : Int → Nat → zH → Prop} {X : Nat → Nat → zH → Prop} {n : Int} {r : zH} {s : Int → Int} (mr : mRoad h r) (wr : wRoad r) (mb : mBook h s n) (K : R (mLb (fun c => mWt r s c 3) (r 0 4).toNat) c (hw h 113 0 0)) : zCl (d + 2) 318 [(2, 113)] c h R X := by
  have h1 := wr_c wr
  have mr1 : mRoad (hw h 113 0 0) r := mRoad_fr (fun o j q => by unfold mRo at q; rw [hw_ne (by omega)]) mr
  have mb1 : mBook (hw h 113 0 0) s n := ⟨by rw [hw_ne (by omega)]; exact mb.1, fun k a b => by rw [hw_ne (by omega)]; exact mb.2 k a b⟩
  have hs : ∀ j : Int, 0 ≤ j → j < 3 → s j = if j = -1 then 0 else s j := fun j a b => by rw [if_neg (by omega)]
  refine b_318 (s_319 mr1 wr mb1 hs ?_)
  have hl := mLb_r (fun c => mWt r s c 3) (r 0 4).toNat
  refine zDown (W := fun m => (∀ j : Int, 0 ≤ j → j < (m : Int) → (0 < mMo (fun c => mWt r s c 3) (r 0 4).toNat → mWt r s j 3 ≠ mMo (fun c => mWt r s c 3) (r 0 4).toNat)) → zWp (d + 2) 318 14 [(2, 113), (1, mMo (fun c => mWt r s c 3) (r 0 4).toNat), (9, 0), (0, (m : Int))] [] (zTS c (hw h 113 0 0)) (zQ 1 R X)) (r 0 4).toNat ?_ ?_ 0 (Nat.zero_le _) (fun j a b => by omega)
  · intro hj
    refine b_318_14 ⟨fun _ => ?_, fun q => ?_⟩
    · rcases hl with ⟨a, _⟩ | ⟨a, b, e, f, g⟩
      · rw [a] at K
        exact K
      · exact absurd e (hj _ a (by omega) f)
    · rw [mr_c mr1] at q
      omega
  · intro m hm ih hj
    refine b_318_14 ⟨fun q => ?_, fun _ => ⟨fun q => ?_, fun q => s_317 mr1 wr mb1 (by omega) hs ⟨fun q1 => ?_, fun q1 => ?_⟩⟩⟩
    · rw [mr_c mr1] at q
      omega
    · rw [w32_s (by omega)]
      exact ih (fun j a b f => by omega)
    · rw [w32_s (by omega)]
      refine ih (fun j a b f => ?_)
      by_cases e : j = m
      · subst e
        exact q1
      · exact hj j a (by omega) f
    · rcases hl with ⟨a, b⟩ | ⟨a, b, e, f, g⟩
      · omega
      · have h2 : mLb (fun c => mWt r s c 3) (r 0 4).toNat = m := by
          rcases Int.lt_trichotomy (mLb (fun c => mWt r s c 3) (r 0 4).toNat) m with q2 | q2 | q2
          · exact absurd e (hj _ a q2 f)
          · exact q2
          · have := g m (by omega) q2
            omega
        rw [h2] at K
        exact K
def mAV (r : zH) (s : Int → Int) (k : Int) : Int := mMo (fun c => mWt r s c 3 * mLk r c k 0) (r 0 4).toNat + mMo (fun c => mWt r s c 3 * mLk r c k 1) (r 0 4).toNat
theorem mAV_r {r : zH} (wr : wRoad r) (s : Int → Int) {k : Int} (hk : 0 ≤ k ∧ k < 3) : (0 ≤ mMo (fun c => mWt r s c 3 * mLk r c k 0) (r 0 4).toNat ∧ mMo (fun c => mWt r s c 3 * mLk r c k 0) (r 0 4).toNat ≤ 1048576) ∧ (0 ≤ mMo (fun c => mWt r s c 3 * mLk r c k 1) (r 0 4).toNat ∧ mMo (fun c => mWt r s c 3 * mLk r c k 1) (r 0 4).toNat ≤ 1048576) := by
  have hh := wr_c wr
  refine ⟨mMo_r (by decide) (fun m hm => ?_), mMo_r (by decide) (fun m hm => ?_)⟩
  · have a1 := mWt3_r wr s (c := m) (by omega) (Nat.le_refl 3)
    have a2 := mLk_r wr 0 (c := m) (by omega) hk
    have := mul_r a1.1 a1.2 a2.1 a2.2
    omega
  · have a1 := mWt3_r wr s (c := m) (by omega) (Nat.le_refl 3)
    have a2 := mLk_r wr 1 (c := m) (by omega) hk
    have := mul_r a1.1 a1.2 a2.1 a2.2
    omega
/-- which sign to ask for, of the first n -/
def mAsk (r : zH) (s : Int → Int) : Nat → Int
  | 0 => -1
  | k + 1 => if s k = -1 ∧ (mAsk r s k = -1 ∨ mAV r s (mAsk r s k) < mAV r s k) then k else mAsk r s k
theorem mAsk_r (r : zH) (s : Int → Int) : ∀ n : Nat, mAsk r s n = -1 ∨ (0 ≤ mAsk r s n ∧ mAsk r s n < n)
  | 0 => by simp [mAsk]
  | n + 1 => by
    have := mAsk_r r s n
    rw [mAsk]
    split <;> omega
theorem s_47 {d c : Nat} {h : zH} {R : Int → Nat → zH → Prop} {X : Nat → Nat → zH → Prop} {t b n : Int} {r : zH} {s : Int → Int} (ht : zIsR t) (hb : zIsB b) (h5 : h 1 5 = t) (h11 : h 1 11 = b) (cr : cRoad t h r) (wr : wRoad r) (cb : cBook b h s n) (K : R (mAsk r s 3) c h) : zCl (d + 3) 47 [(2, 1)] c h R X := by
  refine b_47 ht hb ?_
  refine zDown (W := fun m => zWp (d + 3) 47 6 [(2, 1), (0, mAsk r s m), (0, if mAsk r s m = -1 then -1 else mAV r s (mAsk r s m)), (0, (m : Int)), (9, 0)] [] (zTS c h) (zQ 1 R X)) 3 ?_ ?_ 0 (Nat.zero_le _)
  · exact b_47_6 ht hb ⟨fun _ => K, fun q => by omega⟩
  · intro m hm ih
    have e1 := cb.2 m (by omega) (by omega)
    have hv := mAV_r wr s (k := m) (by omega)
    have hu := mAsk_r r s m
    rw [mAsk] at ih
    refine b_47_6 ht hb ⟨fun q => by omega, fun _ => ⟨h11, b_45 hb ⟨by omega, fun q => ⟨fun q1 => absurd rfl q1, fun _ => ⟨h11, h5, s_48 ht hb cr wr cb (by omega) ⟨h11, h5, s_48 ht hb cr wr cb (by omega) ?_⟩⟩⟩, fun q => ⟨fun _ => ?_, fun q1 => absurd q1 (by decide)⟩⟩⟩⟩
    · rw [e1] at q
      rw [w32_s (by omega), w32_e (by omega) (by omega)]
      have hd : mMo (fun c => mWt r s c 3 * mLk r c m 0) (r 0 4).toNat + mMo (fun c => mWt r s c 3 * mLk r c m 1) (r 0 4).toNat = mAV r s m := rfl
      rw [hd]
      have hv2 : 0 ≤ mAV r s m := by rw [← hd]; omega
      refine ⟨fun q1 => ?_, fun q1 => ?_⟩
      · rw [if_neg] at ih
        · exact ih
        · intro w
          by_cases q2 : mAsk r s m = -1
          · rw [if_pos q2] at q1
            omega
          · rw [if_neg q2] at q1
            omega
      · rw [if_pos] at ih
        · rw [if_neg (by omega)] at ih
          exact ih
        · refine ⟨q, ?_⟩
          by_cases q2 : mAsk r s m = -1
          · exact Or.inl q2
          · rw [if_neg q2] at q1
            exact Or.inr q1
    · rw [e1] at q
      rw [if_neg (fun w => q w.1)] at ih
      rw [w32_s (by omega)]
      exact ih
theorem s_320 {d c : Nat} {h : zH} {R : Int → Nat → zH → Prop} {X : Nat → Nat → zH → Prop} {n : Int} {r : zH} {s : Int → Int} (mr : mRoad h r) (wr : wRoad r) (mb : mBook h s n) (K : R (mAsk r s 3) c (hw h 113 0 0)) : zCl (d + 2) 320 [(2, 113)] c h R X := by
  have mr1 : mRoad (hw h 113 0 0) r := mRoad_fr (fun o j q => by unfold mRo at q; rw [hw_ne (by omega)]) mr
  have mb1 : mBook (hw h 113 0 0) s n := ⟨by rw [hw_ne (by omega)]; exact mb.1, fun k a b => by rw [hw_ne (by omega)]; exact mb.2 k a b⟩
  refine b_320 ?_
  refine zDown (W := fun m => ∀ v, (mAsk r s m ≠ -1 → v = mAV r s (mAsk r s m)) → zWp (d + 2) 320 12 [(2, 113), (0, mAsk r s m), (1, v), (9, 0), (0, (m : Int)), (9, 0), (9, 0)] [] (zTS c (hw h 113 0 0)) (zQ 1 R X)) 3 ?_ ?_ 0 (Nat.zero_le _) 0 (fun q => absurd rfl q)
  · intro v hv
    exact b_320_12 ⟨fun _ => K, fun q => by omega⟩
  · intro m hm ih v hv
    have e1 := mb1.2 m (by omega) (by omega)
    have hr := mAV_r wr s (k := m) (by omega)
    rw [mAsk] at ih
    refine b_320_12 ⟨fun q => by omega, fun _ => ⟨by omega, fun q => ?_, fun q => ?_⟩⟩
    · rw [e1] at q
      refine s_319 (s' := fun j => if j = m then 0 else s j) mr1 wr mb1 (fun j _ _ => rfl) (s_319 (s' := fun j => if j = m then 1 else s j) mr1 wr mb1 (fun j _ _ => rfl) ?_)
      have u0 : mMo (fun c => mWt r (fun j => if j = m then 0 else s j) c 3) (r 0 4).toNat = mMo (fun c => mWt r s c 3 * mLk r c m 0) (r 0 4).toNat := mMo_congr (fun k _ => mWt_upd (by omega) q (by decide) (fun j _ _ => rfl))
      have u1 : mMo (fun c => mWt r (fun j => if j = m then 1 else s j) c 3) (r 0 4).toNat = mMo (fun c => mWt r s c 3 * mLk r c m 1) (r 0 4).toNat := mMo_congr (fun k _ => mWt_upd (by omega) q (by decide) (fun j _ _ => rfl))
      rw [u0, u1, w64_e (by omega) (by omega), w32_s (by omega)]
      have hd : mMo (fun c => mWt r s c 3 * mLk r c m 0) (r 0 4).toNat + mMo (fun c => mWt r s c 3 * mLk r c m 1) (r 0 4).toNat = mAV r s m := rfl
      rw [hd]
      refine ⟨fun q1 => ?_, fun q1 => ⟨fun q2 => ?_, fun q2 => ?_⟩⟩
      · rw [if_pos ⟨q, Or.inl q1⟩] at ih
        exact ih _ (fun _ => rfl)
      · rw [hv q1] at q2
        rw [if_pos ⟨q, Or.inr q2⟩] at ih
        exact ih _ (fun _ => rfl)
      · rw [hv q1] at q2
        rw [if_neg (by omega)] at ih
        exact ih v hv
    · rw [e1] at q
      rw [if_neg (fun w => q w.1)] at ih
      rw [w32_s (by omega)]
      exact ih v hv
theorem mOd_r {r : zH} (wr : wRoad r) (s : Int → Int) {m : Nat} (hm : m ≤ (r 0 4).toNat) : 0 ≤ mSum (fun c => mWt r s c 3) m ∧ mSum (fun c => mWt r s c 3) m ≤ 65536 * m := by
  have hh := wr_c wr
  exact mSum_le (fun k hk => mWt3_r wr s (c := k) (by omega) (Nat.le_refl 3))
/-- the odds of a cause -/
def mOd (r : zH) (s : Int → Int) (c part : Int) : Int := if mSum (fun c => mWt r s c 3) (r 0 4).toNat = 0 then part else mLst (mWt r s c 3) (mSum (fun c => mWt r s c 3) (r 0 4).toNat) part
theorem s_197_24 {d c : Nat} {h : zH} {R : Int → Nat → zH → Prop} {X : Nat → Nat → zH → Prop} {t b n x part : Int} {r : zH} {s : Int → Int} (ht : zIsR t) (hb : zIsB b) (h5 : h 1 5 = t) (h11 : h 1 11 = b) (cr : cRoad t h r) (wr : wRoad r) (cb : cBook b h s n) (hx : 0 ≤ x ∧ x < r 0 4) (K : R (mOd r s x part) c h) : zWp (d + 2) 197 24 [(2, 1), (0, x), (0, part), (1, 0), (9, 0), (0, 0)] [] (zTS c h) (zQ 3 R X) := by
  have hh := wr_c wr
  unfold mOd at K
  refine zDown (W := fun m => zWp (d + 2) 197 24 [(2, 1), (0, x), (0, part), (1, mSum (fun c => mWt r s c 3) m), (9, 0), (0, (m : Int))] [] (zTS c h) (zQ 3 R X)) (r 0 4).toNat ?_ ?_ 0 (Nat.zero_le _)
  · have hr := mOd_r wr s (Nat.le_refl _)
    have hw := mWt3_r wr s hx (Nat.le_refl 3)
    refine b_197_24 ht hb ⟨h5, fun _ => ⟨fun q => ⟨h11, h5, s_44 ht hb cr wr cb hx (s_166 (by omega) (by omega) ?_)⟩, fun q => ?_⟩, fun q => ?_⟩
    · rw [if_neg q] at K
      exact K
    · rw [if_pos q] at K
      exact K
    · rw [cr_c cr] at q
      omega
  · intro m hm ih
    have hr := mOd_r wr s (m := m + 1) (by omega)
    rw [mSum] at ih hr
    refine b_197_24 ht hb ⟨h5, fun q => ?_, fun _ => ⟨h11, h5, s_44 ht hb cr wr cb (by omega) ?_⟩⟩
    · rw [cr_c cr] at q
      omega
    · rw [w32_s (by omega), w64_e (by omega) (by omega)]
      exact ih
theorem s_316_47 {d c : Nat} {h : zH} {R : Int → Nat → zH → Prop} {X : Nat → Nat → zH → Prop} {n x part : Int} {r : zH} {s : Int → Int} (mr : mRoad h r) (wr : wRoad r) (mb : mBook h s n) (hx : 0 ≤ x ∧ x < r 0 4) (K : R (mOd r s x part) c h) : zWp (d + 1) 316 47 [(2, 113), (0, x), (0, part), (1, 0), (9, 0), (0, 0)] [] (zTS c h) (zQ 3 R X) := by
  have hh := wr_c wr
  have hs : ∀ j : Int, 0 ≤ j → j < 3 → s j = if j = -1 then 0 else s j := fun j a b => by rw [if_neg (by omega)]
  unfold mOd at K
  refine zDown (W := fun m => zWp (d + 1) 316 47 [(2, 113), (0, x), (0, part), (1, mSum (fun c => mWt r s c 3) m), (9, 0), (0, (m : Int))] [] (zTS c h) (zQ 3 R X)) (r 0 4).toNat ?_ ?_ 0 (Nat.zero_le _)
  · have hr := mOd_r wr s (Nat.le_refl _)
    have hw := mWt3_r wr s hx (Nat.le_refl 3)
    refine b_316_47 ⟨fun _ => ⟨fun q => s_317 mr wr mb hx hs (s_301 (by omega) (by omega) ?_), fun q => ?_⟩, fun q => ?_⟩
    · rw [if_neg q] at K
      exact K
    · rw [if_pos q] at K
      exact K
    · rw [mr_c mr] at q
      omega
  · intro m hm ih
    have hr := mOd_r wr s (m := m + 1) (by omega)
    rw [mSum] at ih hr
    refine b_316_47 ⟨fun q => ?_, fun _ => s_317 mr wr mb (by omega) hs ?_⟩
    · rw [mr_c mr] at q
      omega
    · rw [w32_s (by omega), w64_e (by omega) (by omega)]
      exact ih
