/-! the reference: what is asked of a road and of a law -/
theorem s_269 {d c : Nat} {h : zH} {R : Int → Nat → zH → Prop} {X : Nat → Nat → zH → Prop} {x : Int} (k : R (mOnes x) c h) : zCl d 269 [(2, 113), (0, x)] c h R X := by
  refine b_269 ?_
  refine zDown (W := fun n => zWp d 269 4 [(2, 113), (0, x), (0, mSum (fun p => zb x p) n), (0, (n : Int))] [] (zTS c h) (zQ 1 R X)) 12 ?_ ?_ 0 (Nat.zero_le _)
  · exact b_269_4 ⟨fun _ => k, fun q => by omega⟩
  · intro n hn ih
    have hb := mSum_le (f := fun p => zb x p) (b := 1) (n := n) (fun k _ => by have := zb01 x k; omega)
    have hz := zb01 x n
    refine b_269_4 ⟨fun q => by omega, fun _ => ?_⟩
    rw [w32_s (by omega), w32_e (x := _ + zb x n) (by omega) (by omega)]
    rw [mSum] at ih
    exact ih
theorem s_270 {d c : Nat} {h : zH} {R : Int → Nat → zH → Prop} {X : Nat → Nat → zH → Prop} {x : Int} {r : zH} (mr : mRoad h r) (wr : wRoad r) (k : R (mStr r x) c h) : zCl d 270 [(2, 113), (0, x)] c h R X := by
  refine b_270 ?_
  have hp := wr_p wr
  refine zDown (W := fun n => zWp d 270 4 [(2, 113), (0, x), (0, mSum (fun p => zb x p * r 1 p) n), (0, (n : Int))] [] (zTS c h) (zQ 1 R X)) (r 0 0).toNat ?_ ?_ 0 (Nat.zero_le _)
  · refine b_270_4 ⟨fun _ => k, fun q => ?_⟩
    rw [mr_p mr] at q
    omega
  · intro n hn ih
    have hb := mStr_b wr x (n := n) (by omega)
    have h1 := wr_strong wr n (by omega) (by omega)
    refine b_270_4 ⟨fun q => ?_, fun _ => ⟨by omega, ?_⟩⟩
    · rw [mr_p mr] at q
      omega
    · have e1 : 0 ≤ zb x n * r 1 n ∧ zb x n * r 1 n ≤ 9 := by
        rcases zb01 x n with e | e <;> rw [e] <;> omega
      rw [w32_s (by omega), mr_strong mr n (by omega) (by omega), w32_e (x := zb x n * r 1 n) (by omega) (by omega), w32_e (by omega) (by omega)]
      rw [mSum] at ih
      exact ih
theorem s_268 {d c : Nat} {h : zH} {R : Int → Nat → zH → Prop} {X : Nat → Nat → zH → Prop} {x e : Int} {r : zH} (mr : mRoad h r) (wr : wRoad r) (he : 0 ≤ e ∧ e < r 0 1) (k1 : mCan r x e → R 1 c h) (k0 : ¬ mCan r x e → R 0 c h) : zCl (d + 1) 268 [(2, 113), (0, e), (0, x)] c h R X := by
  have hd := wr_d wr
  have hc := mr_deed mr e he.1 he.2
  have e5 : w32 (5 * e) = 5 * e := w32_e (by omega) (by omega)
  have e2 : w32 (w32 (5 * e) + 2) = 5 * e + 2 := by rw [e5, w32_e (by omega) (by omega)]
  have e3 : w32 (w32 (5 * e) + 3) = 5 * e + 3 := by rw [e5, w32_e (by omega) (by omega)]
  refine b_268 (s_269 ?_)
  rw [e2, e3, hc.2.2.1]
  refine ⟨by omega, fun q => k0 (fun w => q w.1), fun q => s_270 mr wr ?_⟩
  rw [hc.2.2.2.1]
  exact ⟨by omega, fun q1 => k0 (fun w => by have := w.2; omega), fun q1 => k1 ⟨q, q1⟩⟩
theorem mDn_ext {E g : Int → Int} {n : Nat} : ∀ m : Nat, n ≤ m → (∀ k : Nat, n ≤ k → k < m → g k = 0) → mDn E g m = mDn E g n := by
  intro m hm p
  induction m with
  | zero => rw [show n = 0 by omega]
  | succ m ih =>
    by_cases e : n = m + 1
    · rw [e]
    · have h1 := ih (by omega) (fun k a b => p k a (by omega))
      rw [mDn, p m (by omega) (by omega), h1]
      split
      · rename_i q; rw [q]
      · rw [if_neg (by decide)]
theorem s_271 {d c : Nat} {h : zH} {R : Int → Nat → zH → Prop} {X : Nat → Nat → zH → Prop} {x e : Int} {r : zH} (mr : mRoad h r) (wr : wRoad r) (he : 0 ≤ e ∧ e < r 0 1) (k : R (mBeg r (h 145) (h 144) e x) c h) : zCl d 271 [(2, 113), (0, e), (0, x)] c h R X := by
  have hd := wr_d wr
  have hp := wr_p wr
  have hc := mr_deed mr e he.1 he.2
  have hw := wr_deed wr e he.1 he.2
  have e4 : w32 (w32 (5 * e) + 4) = 5 * e + 4 := by rw [w32_e (x := 5 * e) (by omega) (by omega), w32_e (by omega) (by omega)]
  have ee : mDn (h 145) (zb (r 6 e)) (r 0 1).toNat = mDn (h 145) (zb (r 6 e)) e.toNat := mDn_ext _ (by omega) (fun k a b => zb_hi (n := e.toNat) hw.2.2.2.2.1 hw.2.2.2.2.2 (by omega) (by omega) (by omega))
  unfold mBeg at k
  rw [← ee] at k
  refine b_271 ?_
  refine zDown (W := fun n => zWp d 271 5 [(2, 113), (0, e), (0, x), (0, mMx (h 144) (zb x) n), (0, (n : Int))] [] (zTS c h) (zQ 1 R X)) (r 0 0).toNat ?_ ?_ 0 (Nat.zero_le _)
  · refine b_271_5 ⟨fun _ => ?_, fun q => ?_⟩
    · have h0 := mMx_ge (h 144) (zb x) (r 0 0).toNat
      generalize mMx (h 144) (zb x) (r 0 0).toNat = M at k h0
      have := zDown (W := fun n => mDn (h 145) (zb (r 6 e)) n ≠ -1 → zWp d 271 56 [(2, 113), (0, e), (0, x), (0, zMx (mDn (h 145) (zb (r 6 e)) n) M), (0, (n : Int))] [] (zTS c h) (zQ 1 R X)) (r 0 1).toNat ?_ ?_ 0 (Nat.zero_le _) (by simp [mDn])
      · have e0 : zMx (mDn (h 145) (zb (r 6 e)) 0) M = M := by
          unfold zMx mDn
          split <;> omega
        rw [e0] at this
        exact this
      · intro hne
        rw [if_neg hne] at k
        refine b_271_56 ⟨fun _ => k, fun q => ?_⟩
        rw [mr_d mr] at q
        omega
      · intro n hn ih hne
        have hg := (mDn_ge (h 145) (zb (r 6 e)) n).resolve_left hne
        refine b_271_56 ⟨fun q => ?_, fun _ => ?_⟩
        · rw [mr_d mr] at q
          omega
        · rw [e4, hc.2.2.2.2, w32_s (by omega)]
          refine ⟨by omega, fun q => ⟨by omega, fun q1 => ⟨by omega, fun q2 => ?_, fun q2 => ⟨by omega, ?_⟩⟩, fun q1 => ?_⟩, fun q => ?_⟩
          · have e1 : zb (r 6 e) n = 1 := (zb01 (r 6 e) n).resolve_left q
            rw [mDn, if_neg hne, if_pos e1, if_neg q1] at ih
            have := ih (by unfold zMx; split <;> omega)
            have e6 : zMx (zMx (mDn (h 145) (zb (r 6 e)) n) (h 145 n)) M = zMx (mDn (h 145) (zb (r 6 e)) n) M := by
              revert q2
              unfold zMx
              repeat' split
              all_goals omega
            rw [e6] at this
            exact this
          · have e1 : zb (r 6 e) n = 1 := (zb01 (r 6 e) n).resolve_left q
            rw [mDn, if_neg hne, if_pos e1, if_neg q1] at ih
            have := ih (by unfold zMx; split <;> omega)
            have e6 : zMx (zMx (mDn (h 145) (zb (r 6 e)) n) (h 145 n)) M = h 145 n := by
              revert q2
              unfold zMx
              repeat' split
              all_goals omega
            rw [e6] at this
            exact this
          · have e1 : zb (r 6 e) n = 1 := (zb01 (r 6 e) n).resolve_left q
            have e2 : mDn (h 145) (zb (r 6 e)) (n + 1) = -1 := by rw [mDn, if_neg hne, if_pos e1, if_pos q1]
            rw [mDn_neg e2 _ (by omega), if_pos rfl] at k
            exact k
          · have e1 : ¬ zb (r 6 e) n = 1 := by
              have : zb (r 6 e) n = 0 := q
              omega
            rw [mDn, if_neg hne, if_neg e1] at ih
            exact ih hne
    · rw [mr_p mr] at q
      omega
  · intro n hn ih
    refine b_271_5 ⟨fun q => ?_, fun _ => ?_⟩
    · rw [mr_p mr] at q
      omega
    · rw [w32_s (by omega)]
      rw [mMx] at ih
      refine ⟨fun q => ?_, fun q => ⟨by omega, fun q1 => ?_, fun q1 => ⟨by omega, ?_⟩⟩⟩
      · rw [if_neg q] at ih
        exact ih
      · rw [if_pos q] at ih
        unfold zMx at ih
        rw [if_neg (by omega)] at ih
        exact ih
      · rw [if_pos q] at ih
        unfold zMx at ih
        rw [if_pos (by omega)] at ih
        exact ih
theorem mRn1 {r : zH} {t : Int} (h0 : 0 ≤ t) : mRn r t (t + 1) = if t < 241 then r 14 t else 0 := by
  unfold mRn
  rw [if_neg (by omega)]
  by_cases q : t < 241
  · rw [if_pos q, if_neg (by omega), if_neg (by omega)]
    rw [show (t + 1).toNat = t.toNat + 1 by omega, mSum, Int.toNat_of_nonneg h0]
    omega
  · rw [if_neg q, if_pos (by omega)]
    by_cases q1 : 241 < t
    · rw [if_pos q1]
      omega
    · rw [if_neg q1, show t = 241 by omega]
      simp
theorem mRn_add {r : zH} {a b c : Int} (h0 : 0 ≤ a) (h1 : a ≤ b) (h2 : b ≤ c) : mRn r a c = mRn r a b + mRn r b c := by
  unfold mRn
  rw [if_neg (show ¬ (a < 0 ∨ c < a) by omega), if_neg (show ¬ (a < 0 ∨ b < a) by omega), if_neg (show ¬ (b < 0 ∨ c < b) by omega)]
  omega
theorem s_273 {d c : Nat} {h : zH} {R : Int → Nat → zH → Prop} {X : Nat → Nat → zH → Prop} {t : Int} {r : zH} (mr : mRoad h r) (wr : wRoad r) (ht : 0 ≤ t) (k : R (mRn r t (t + 1)) c h) : zCl d 273 [(2, 113), (0, t)] c h R X := by
  rw [mRn1 ht] at k
  refine b_273 ⟨fun q => ?_, fun q => ⟨by omega, fun q1 => ?_, fun q1 => ?_⟩⟩
  · rw [if_neg (by omega)] at k
    exact k
  · rw [if_pos q, ← mr_rain mr t ht q, q1] at k
    exact k
  · have := wr_rain wr t ht q
    rw [mr_rain mr t ht q] at q1
    rw [if_pos q, show r 14 t = 1 by omega] at k
    exact k
theorem s_275 {d c : Nat} {h : zH} {R : Int → Nat → zH → Prop} {X : Nat → Nat → zH → Prop} {a b : Int} {r : zH} (mr : mRoad h r) (wr : wRoad r) (ha : 0 ≤ a) (hab : a ≤ b) (hb : b < 1000000) (k : R (mRn r a b) c h) : zCl (d + 1) 275 [(2, 113), (0, a), (0, b)] c h R X := by
  refine b_275 ?_
  have := zDown (W := fun n => a ≤ n → zWp (d + 1) 275 5 [(2, 113), (0, a), (0, b), (0, mRn r a n), (0, (n : Int))] [] (zTS c h) (zQ 1 R X)) b.toNat ?_ ?_ a.toNat (by omega) (by omega)
  · rw [Int.toNat_of_nonneg ha, show mRn r a a = 0 by unfold mRn; split <;> omega] at this
    exact this
  · intro _
    refine b_275_5 ⟨fun _ => ?_, fun q => by omega⟩
    rw [Int.toNat_of_nonneg (by omega)]
    exact k
  · intro n hn ih hna
    refine b_275_5 ⟨fun q => by omega, fun _ => s_273 mr wr (by omega) ?_⟩
    have h1 := mRn_add (r := r) ha hna (show (n : Int) ≤ n + 1 by omega)
    have h2 := mRn_r wr a n
    have h3 := mRn_r wr a (n + 1)
    have h4 : mRn r n (n + 1) = 0 ∨ mRn r n (n + 1) = 1 := by
      rw [mRn1 (by omega)]
      split
      · have := wr_rain wr n (by omega) (by omega)
        omega
      · omega
    have := ih (by omega)
    rw [show ((n + 1 : Nat) : Int) = (n : Int) + 1 by omega, h1] at this
    rw [w32_e (x := (n : Int) + 1) (by omega) (by omega)]
    refine ⟨fun q => ?_, fun q => ?_⟩
    · rw [q] at this
      rw [w32_e (by omega) (by omega)]
      exact this
    · rw [h4.resolve_left q] at this
      rw [w32_e (by omega) (by omega)]
      exact this
theorem s_264 {d c : Nat} {h : zH} {R : Int → Nat → zH → Prop} {X : Nat → Nat → zH → Prop} {op a b : Int} (h1 : 2 ≤ op) (h2 : op ≤ 7) (k : R (mJoin (op + 1004) a b) c h) : zCl d 264 [(0, op), (0, a), (0, b)] c h R X := by
  unfold mJoin at k
  refine b_264 ⟨fun q => ⟨fun q1 => ⟨fun q2 => ⟨fun q3 => ⟨fun q4 => ⟨fun q5 => ?_, fun q5 => ?_⟩, fun q4 => ⟨fun q5 => ?_, fun q5 => ?_⟩⟩, fun q3 => ⟨fun q4 => ⟨q4, ?_⟩, fun q4 => ?_⟩⟩, fun q2 => ?_⟩, fun q1 => ?_⟩, fun q => ?_⟩
  · rw [if_neg (by omega), if_neg (by omega), if_neg (by omega), if_neg (by omega), if_neg (by omega)] at k
    by_cases q6 : b < a
    · rw [if_pos q6] at k
      exact k
    · rw [if_neg q6, show b = a by omega] at k
      exact k
  · rw [if_neg (by omega), if_neg (by omega), if_neg (by omega), if_neg (by omega), if_pos (by omega), if_neg (by omega)] at k
    exact k
  · rw [if_neg (by omega), if_neg (by omega), if_neg (by omega), if_neg (by omega), if_neg (by omega), if_neg (by omega)] at k
    exact k
  · rw [if_neg (by omega), if_neg (by omega), if_neg (by omega), if_neg (by omega), if_pos (by omega), if_pos (by omega)] at k
    exact k
  · rw [if_neg (by omega), if_neg (by omega), if_neg (by omega), if_pos (by omega), if_neg q4] at k
    exact k
  · rw [if_neg (by omega), if_neg (by omega), if_neg (by omega), if_pos (by omega), if_pos q4] at k
    exact k
  · rw [if_neg (by omega), if_neg (by omega), if_pos (by omega)] at k
    exact k
  · rw [if_neg (by omega), if_pos (by omega)] at k
    exact k
  · rw [if_pos (by omega)] at k
    exact k
theorem s_263 {d c : Nat} {h : zH} {R : Int → Nat → zH → Prop} {X : Nat → Nat → zH → Prop} {f F : Int → Int} {N : Nat} (hN : h 113 43 = N) (cl : ∀ k : Int, 0 ≤ k → k < N → (f k < 1000 → h 134 k = 0 ∧ h 135 k = f k) ∧ (1000 ≤ f k → f k < 1006 → h 134 k = 1 ∧ h 135 k = f k - 1000) ∧ (1006 ≤ f k → h 134 k = f k - 1004)) (wl : wLaw f N) (hF : ∀ j : Int, 0 ≤ j → j < 6 → h 137 j = F j) (k : ∀ h', (∀ o j, o ≠ 136 → h' o j = h o j) → R (mStk f F N 0) c h') : zCl (d + 1) 263 [(2, 113)] c h R X := by
  refine b_263 ?_
  refine zDown (W := fun n => ∀ h', (∀ o j, o ≠ 136 → h' o j = h o j) → (∀ j : Int, 0 ≤ j → j < mTop f n → h' 136 j = mStk f F n j) → zWp (d + 1) 263 4 [(2, 113), (0, mTop f n), (0, (n : Int)), (9, 0)] [] (zTS c h') (zQ 1 R X)) N ?_ ?_ 0 (Nat.zero_le _) h (fun _ _ _ => rfl) (fun j h1 h2 => by simp [mTop] at h2; omega)
  · intro h' fr hs
    refine b_263_4 ⟨fun _ => ?_, fun q => ?_⟩
    · rw [hs 0 (by omega) (by rw [wl.2.2]; omega)]
      exact k h' fr
    · rw [fr 113 43 (by omega), hN] at q
      omega
  · intro n hn ih h' fr hs
    have hN' := wl.1
    have hr := mTop_r wl n (by omega)
    have hf := wl.2.1 n hn
    have hc := cl n (by omega) (by omega)
    have e1 : h' 134 n = h 134 n := fr _ _ (by omega)
    have e2 : h' 113 43 = N := by rw [fr _ _ (by omega), hN]
    have e7 : h' 135 n = h 135 n := fr _ _ (by omega)
    rcases (by omega : f n < 1000 ∨ (1000 ≤ f n ∧ f n < 1006) ∨ 1006 ≤ f n) with q | q | q
    · have hq := hc.1 q
      have e4 : mTop f (n + 1) = mTop f n + 1 := by rw [mTop, if_neg (by omega)]
      have := ih (hw h' 136 (mTop f n) (h' 135 n)) (fun o j ho => by rw [hw_ne (Or.inl ho), fr o j ho]) (fun j h1 h2 => by
        rw [mStk_s, if_neg (by omega)]
        by_cases ej : j = mTop f n
        · rw [hw_eq ⟨rfl, ej⟩, if_pos ej, if_pos (by omega), e7, hq.2]
        · rw [hw_ne (Or.inr ej), if_neg ej, hs j h1 (by omega)])
      rw [e4] at this
      refine b_263_4 ⟨fun q => by omega, fun _ => ⟨by omega, fun q => by omega, fun _ => ⟨fun q => by omega, fun _ => ⟨by omega, by omega, ?_⟩⟩⟩⟩
      rw [w32_s (by omega), w32_e (by omega) (by omega)]
      exact this
    · have hq := hc.2.1 q.1 q.2
      have e4 : mTop f (n + 1) = mTop f n + 1 := by rw [mTop, if_neg (by omega)]
      have := ih (hw h' 136 (mTop f n) (h' 137 (h' 135 n))) (fun o j ho => by rw [hw_ne (Or.inl ho), fr o j ho]) (fun j h1 h2 => by
        rw [mStk_s, if_neg (by omega)]
        by_cases ej : j = mTop f n
        · rw [hw_eq ⟨rfl, ej⟩, if_pos ej, if_neg (by omega), e7, hq.2, fr _ _ (by omega), hF _ (by omega) (by omega)]
        · rw [hw_ne (Or.inr ej), if_neg ej, hs j h1 (by omega)])
      rw [e4] at this
      refine b_263_4 ⟨fun q => by omega, fun _ => ⟨by omega, fun q => by omega, fun _ => ⟨fun _ => ⟨by omega, by omega, by omega, ?_⟩, fun q => by omega⟩⟩⟩
      rw [w32_s (by omega), w32_e (by omega) (by omega)]
      exact this
    · have hq := hc.2.2 q
      have hf2 := hf.2.2 q
      have e4 : mTop f (n + 1) = mTop f n - 1 := by rw [mTop, if_pos q]
      have e5 : w32 (mTop f n + (-1)) = mTop f n - 1 := by rw [w32_e (by omega) (by omega)]; omega
      have e6 : w32 (w32 (mTop f n + (-1)) - 1) = mTop f n - 2 := by rw [e5, w32_e (by omega) (by omega)]; omega
      have := ih (hw h' 136 (mTop f n - 2) (mJoin (f n) (mStk f F n (mTop f n - 2)) (mStk f F n (mTop f n - 1)))) (fun o j ho => by rw [hw_ne (Or.inl ho), fr o j ho]) (fun j h1 h2 => by
        rw [mStk_s, if_pos q]
        by_cases ej : j = mTop f n - 2
        · rw [hw_eq ⟨rfl, ej⟩, if_pos ej]
        · rw [hw_ne (Or.inr ej), if_neg ej, hs j h1 (by omega)])
      rw [e4] at this
      refine b_263_4 ⟨fun q => by omega, fun _ => ⟨by omega, fun _ => ?_, fun q => by omega⟩⟩
      rw [e6, e5]
      refine ⟨by omega, by omega, s_264 (by omega) (by omega) ⟨by omega, ?_⟩⟩
      rw [w32_s (by omega), e1, hq, hs _ (by omega) (by omega), hs _ (by omega) (by omega), show f n - 1004 + 1004 = f n by omega]
      exact this
theorem s_262 {d c : Nat} {h : zH} {R : Int → Nat → zH → Prop} {X : Nat → Nat → zH → Prop} {f F : Int → Int} {N : Nat} (ml : mLaw h f N) (wl : wLaw f N) (hF : ∀ j : Int, 0 ≤ j → j < 6 → h 137 j = F j) (k : ∀ h', (∀ o j, o ≠ 136 → h' o j = h o j) → R (zCla (mStk f F N 0)) c h') : zCl (d + 2) 262 [(2, 113)] c h R X := by
  rcases ml with ⟨m1, m2, m3⟩ | ⟨m1, m2, m3⟩
  · have k1 := k h (fun _ _ _ => rfl)
    subst m2
    have e : mStk f F 1 0 = F 0 := by
      show (if 1006 ≤ f 0 then _ else (if (0 : Int) = 0 then (if f 0 < 1000 then f 0 else F (f 0 - 1000)) else _)) = F 0
      rw [m3]
      rfl
    rw [e, ← hF 0 (by omega) (by omega)] at k1
    unfold zCla at k1
    refine b_262 ⟨fun q => absurd m1 q, fun _ => ⟨fun q => ⟨fun q1 => ?_, fun q1 => ?_⟩, fun q => ?_⟩⟩
    · by_cases q2 : h 137 0 < 99
      · rw [if_pos q2] at k1
        by_cases q3 : 1 < h 137 0
        · rw [if_pos q3] at k1
          exact k1
        · rw [if_neg q3] at k1
          rw [show h 137 0 = 1 by omega]
          exact k1
      · rw [if_neg q2, if_pos (by decide)] at k1
        rw [show h 137 0 = 99 by omega]
        exact k1
    · rw [if_neg (show ¬ h 137 0 < 99 by omega), if_pos (by decide)] at k1
      exact k1
    · rw [if_pos (show h 137 0 < 99 by omega), if_neg (by omega)] at k1
      exact k1
  · refine b_262 ⟨fun _ => s_263 m1 m3 wl hF (fun h' fr => ?_), fun q => by omega⟩
    have k1 := k h' fr
    generalize mStk f F N 0 = v at k1
    unfold zCla at k1
    refine ⟨fun q => ⟨fun q1 => ?_, fun q1 => ?_⟩, fun q => ?_⟩
    · by_cases q2 : v < 99
      · rw [if_pos q2] at k1
        by_cases q3 : 1 < v
        · rw [if_pos q3] at k1
          exact k1
        · rw [if_neg q3] at k1
          rw [show v = 1 by omega]
          exact k1
      · rw [if_neg q2, if_pos (by decide)] at k1
        rw [show v = 99 by omega]
        exact k1
    · rw [if_neg (show ¬ v < 99 by omega), if_pos (by decide)] at k1
      exact k1
    · rw [if_pos (show v < 99 by omega), if_neg (by omega)] at k1
      exact k1
theorem s_272 {d c : Nat} {h : zH} {R : Int → Nat → zH → Prop} {X : Nat → Nat → zH → Prop} {e x b : Int} {r : zH} {f : Int → Int} {N : Nat} (mr : mRoad h r) (wr : wRoad r) (ml : mLaw h f N) (wl : wLaw f N) (he : 0 ≤ e ∧ e < r 0 1) (hb : 0 ≤ b) (k : ∀ h', (∀ o j, o ≠ 136 → o ≠ 137 → h' o j = h o j) → R (mLf r f N e x b) c h') : zCl (d + 3) 272 [(2, 113), (0, e), (0, x), (0, b)] c h R X := by
  have hd := wr_d wr
  have hc := mr_deed mr e he.1 he.2
  have hq := wr_deed wr e he.1 he.2
  have e5 : w32 (5 * e) = 5 * e := w32_e (by omega) (by omega)
  have e0 : w32 (w32 (5 * e) + 0) = 5 * e := by rw [e5, w32_e (by omega) (by omega)]; omega
  have e1 : w32 (w32 (5 * e) + 1) = 5 * e + 1 := by rw [e5, w32_e (by omega) (by omega)]
  have e2 : w32 (w32 (5 * e) + 2) = 5 * e + 2 := by rw [e5, w32_e (by omega) (by omega)]
  have key : ∀ v h', v = mWm r e b (b + 1) → (∀ o j, o ≠ 137 → h' o j = h o j) → h' 137 0 = r 2 e → h' 137 1 = r 4 e → h' 137 2 = mStr r x → zCl (d + 2) 262 [(2, 113)] c (hw (hw (hw h' 137 3 v) 137 4 b) 137 5 (r 3 e)) R X := by
    intro v h' hv fr h0 h1 h2
    refine s_262 (F := mFa r e x b) (mLaw_fr (fun o j ho => ?_) ml) wl (fun j j1 j2 => ?_) (fun h'' fr2 => k h'' (fun o j o1 o2 => ?_))
    · unfold mLo at ho
      rw [hw_ne (by omega), hw_ne (by omega), hw_ne (by omega), fr o j (by omega)]
    · rcases (by omega : j = 0 ∨ j = 1 ∨ j = 2 ∨ j = 3 ∨ j = 4 ∨ j = 5) with q | q | q | q | q | q <;> subst q
      · rw [hw_ne (by omega), hw_ne (by omega), hw_ne (by omega), h0]; rfl
      · rw [hw_ne (by omega), hw_ne (by omega), hw_ne (by omega), h1]; rfl
      · rw [hw_ne (by omega), hw_ne (by omega), hw_ne (by omega), h2]; rfl
      · rw [hw_ne (by omega), hw_ne (by omega), hw_eq ⟨rfl, rfl⟩, hv]; rfl
      · rw [hw_ne (by omega), hw_eq ⟨rfl, rfl⟩]; rfl
      · rw [hw_eq ⟨rfl, rfl⟩]; rfl
    · rw [fr2 o j o1, hw_ne (by omega), hw_ne (by omega), hw_ne (by omega), fr o j o2]
  have mr2 : ∀ h', (∀ o j, o ≠ 137 → h' o j = h o j) → mRoad h' r := fun h' fr => mRoad_fr (fun o j ho => fr o j (by unfold mRo at ho; omega)) mr
  refine b_272 ?_
  rw [e0, e1, e2, hc.1, hc.2.1, hc.2.2.1]
  refine ⟨by omega, by omega, by omega, s_270 (mr2 _ (fun o j ho => by rw [hw_ne (by omega), hw_ne (by omega)])) wr ⟨fun q => ?_, fun q => ?_⟩⟩
  · refine key 0 _ ?_ (fun o j ho => by rw [hw_ne (by omega), hw_ne (by omega), hw_ne (by omega)]) ?_ ?_ ?_
    · unfold mWm
      rw [if_pos (by omega)]
    · rw [hw_ne (by omega), hw_ne (by omega), hw_eq ⟨rfl, rfl⟩]
    · rw [hw_ne (by omega), hw_eq ⟨rfl, rfl⟩]
    · rw [hw_eq ⟨rfl, rfl⟩]
  · refine s_273 (mr2 _ (fun o j ho => by rw [hw_ne (by omega), hw_ne (by omega), hw_ne (by omega)])) wr hb ⟨fun q1 => ?_, fun q1 => ?_⟩
    · refine key 0 _ ?_ (fun o j ho => by rw [hw_ne (by omega), hw_ne (by omega), hw_ne (by omega)]) ?_ ?_ ?_
      · unfold mWm
        rw [if_neg (by omega), q1]
      · rw [hw_ne (by omega), hw_ne (by omega), hw_eq ⟨rfl, rfl⟩]
      · rw [hw_ne (by omega), hw_eq ⟨rfl, rfl⟩]
      · rw [hw_eq ⟨rfl, rfl⟩]
    · refine key 1 _ ?_ (fun o j ho => by rw [hw_ne (by omega), hw_ne (by omega), hw_ne (by omega)]) ?_ ?_ ?_
      · unfold mWm
        rw [if_neg (by omega)]
        have h3 := mRn1 (r := r) hb
        have h4 := mRn_r wr b (b + 1)
        by_cases q2 : b < 241
        · rw [if_pos q2] at h3
          have := wr_rain wr b hb q2
          omega
        · rw [if_neg q2] at h3
          omega
      · rw [hw_ne (by omega), hw_ne (by omega), hw_eq ⟨rfl, rfl⟩]
      · rw [hw_ne (by omega), hw_eq ⟨rfl, rfl⟩]
      · rw [hw_eq ⟨rfl, rfl⟩]
