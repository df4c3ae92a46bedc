/-! nuts in a ring -/
def mWay (a b : Int) : Int := if a < b then b - a else a - b
def mShr (n a b : Int) : Int := if n - mWay a b < mWay a b then n - mWay a b else mWay a b
def mLck (n a b : Int) : Int := if 0 < n / 2 - mShr n a b then n / 2 - mShr n a b else 0
theorem mLck_r {n a b : Int} (hn : 3 ≤ n ∧ n ≤ 6) (ha : 0 ≤ a ∧ a ≤ 9) (hb : 0 ≤ b ∧ b ≤ 9) : 0 ≤ mLck n a b ∧ mLck n a b ≤ 20 := by
  unfold mLck mShr mWay
  repeat' split
  all_goals omega
theorem mLck_c (n a b : Int) : mLck n a b = mLck n b a := by
  have : mWay a b = mWay b a := by
    unfold mWay
    repeat' split
    all_goals omega
  unfold mLck mShr
  rw [this]
theorem s_181 {d c : Nat} {h : zH} {R : Int → Nat → zH → Prop} {X : Nat → Nat → zH → Prop} {n a b : Int} (hn : 3 ≤ n ∧ n ≤ 6) (ha : 0 ≤ a ∧ a ≤ 9) (hb : 0 ≤ b ∧ b ≤ 9) (k : R (mLck n a b) c h) : zCl d 181 [(0, n), (0, a), (0, b)] c h R X := by
  have e1 : zAbs (w32 (a - b)) = mWay a b := by
    rw [w32_e (by omega) (by omega)]
    unfold zAbs mWay
    by_cases q : a < b
    · rw [if_pos (by omega), if_pos q, w32_e (by omega) (by omega)]
      omega
    · rw [if_neg (by omega), if_neg q]
  have hw : 0 ≤ mWay a b ∧ mWay a b ≤ 9 := by
    unfold mWay
    split <;> omega
  refine b_181 ?_
  rw [e1, Int.tdiv_eq_ediv_of_nonneg (by omega), w32_e (x := n / 2) (by omega) (by omega), w32_e (x := n - mWay a b) (by omega) (by omega)]
  have hs : -10 ≤ mShr n a b ∧ mShr n a b ≤ 10 := by
    unfold mShr
    split <;> omega
  show R (if 0 < w32 (n / 2 - mShr n a b) then w32 (n / 2 - mShr n a b) else 0) c h
  rw [w32_e (by omega) (by omega)]
  exact k
theorem s_309 {d c : Nat} {h : zH} {R : Int → Nat → zH → Prop} {X : Nat → Nat → zH → Prop} {n a b : Int} (hn : 3 ≤ n ∧ n ≤ 6) (ha : 0 ≤ a ∧ a ≤ 9) (hb : 0 ≤ b ∧ b ≤ 9) (k : R (mLck n a b) c h) : zCl d 309 [(2, 113), (0, n), (0, a), (0, b)] c h R X := by
  refine b_309 ?_
  rw [Int.tdiv_eq_ediv_of_nonneg (by omega), w32_e (x := n / 2) (by omega) (by omega), w32_e (x := a - b) (by omega) (by omega), w32_e (x := b - a) (by omega) (by omega), w32_e (x := n - (a - b)) (by omega) (by omega), w32_e (x := n - (b - a)) (by omega) (by omega), w32_e (x := n / 2 - (n - (a - b))) (by omega) (by omega), w32_e (x := n / 2 - (a - b)) (by omega) (by omega), w32_e (x := n / 2 - (n - (b - a))) (by omega) (by omega), w32_e (x := n / 2 - (b - a)) (by omega) (by omega)]
  have fin : ∀ v, v = mLck n a b → R v c h := fun v e => by rw [e]; exact k
  refine ⟨fun q => ⟨fun q1 => ⟨fun q2 => fin _ ?_, fun q2 => fin _ ?_⟩, fun q1 => ⟨fun q2 => fin _ ?_, fun q2 => fin _ ?_⟩⟩, fun q => ⟨fun q1 => ⟨fun q2 => fin _ ?_, fun q2 => fin _ ?_⟩, fun q1 => ⟨fun q2 => fin _ ?_, fun q2 => fin _ ?_⟩⟩⟩
  all_goals
    unfold mLck mShr mWay
    repeat' split
    all_goals omega
def mTl (f : Int → Int × Int → Option (Int × Int)) : Nat → Int × Int → Option (Int × Int)
  | 0, s => some s
  | k + 1, s => (mTl f k s).bind (f ((k + 1 : Nat) : Int))
theorem mTl_some {f : Int → Int × Int → Option (Int × Int)} {s s' : Int × Int} : ∀ {n : Nat}, mTl f n s = some s' → ∀ k : Nat, k ≤ n → ∃ t, mTl f k s = some t
  | 0, h, k, hk => by
    rw [show k = 0 by omega]
    exact ⟨s', h⟩
  | n + 1, h, k, hk => by
    by_cases e : k = n + 1
    · rw [e]
      exact ⟨s', h⟩
    · rw [mTl] at h
      cases e2 : mTl f n s with
      | none =>
        rw [e2] at h
        cases h
      | some t => exact mTl_some e2 k (by omega)
def mTi (n : Nat) : Nat → Int → Int → Int → Int × Int → Option (Int × Int)
  | 0, _, _, _, _ => none
  | m + 1, u, dn, la, s => if 0 ≤ u ∧ u < 128 ∧ 0 ≤ dn ∧ dn < 10000000 ∧ 0 ≤ la ∧ la < 1000 then (if la < s.1 then (if (n : Int) ≤ mOnes u then some (la, dn) else mTl (fun i s => if zb u i = 0 then mTi n m (zOr u (zShl 1 i)) (dn * 10 + i) (la + mLck n (Int.tmod dn 10) i) s else some s) n s) else some s) else none
def mCo (n : Nat) : Nat → Int → Int → Int → Int → Int × Int → Option (Int × Int)
  | 0, _, _, _, _, _ => none
  | m + 1, g, l, su, dg, s => if 0 ≤ l ∧ l ≤ 9 ∧ 0 ≤ dg ∧ dg < 10000000 ∧ 0 ≤ su ∧ su < 1000 then (if g = zShl 1 n - 1 then (if su < s.1 then some (su, dg) else some s) else mTl (fun i s => if zb g (i - 1) = 0 then mCo n m (zOr g (zShl 1 (i - 1))) i (if l = 0 then su else su + mLck n l i) (10 * dg + i) s else some s) n s) else none
def mFi (n : Nat) : Option (Int × Int) := mTl (fun i s => mTi n 7 (zShl 1 i) i 0 s) n (2147483647, 0)
theorem mFi_ok : mFi 3 = some (0, 123) ∧ mFi 4 = some (1, 1324) ∧ mFi 5 = some (0, 13524) ∧ mFi 6 = some (2, 142536) := by decide +kernel
theorem mCo_ok : ∀ W ∈ [(0 : Int), 123, 1324, 13524, 142536], mCo 3 8 0 0 0 0 (1000000, W) = some (0, 123) ∧ mCo 4 8 0 0 0 0 (1000000, W) = some (1, 1324) ∧ mCo 5 8 0 0 0 0 (1000000, W) = some (0, 13524) ∧ mCo 6 8 0 0 0 0 (1000000, W) = some (2, 142536) := by decide +kernel
theorem s_180 {n : Nat} (hn : 3 ≤ n ∧ n ≤ 6) {d : Nat} : ∀ (m : Nat) (u dn la : Int) (s s' : Int × Int) (c : Nat) (h : zH) (R : Int → Nat → zH → Prop) (X : Nat → Nat → zH → Prop), mTi n m u dn la s = some s' → h 29 0 = s.1 → h 29 1 = s.2 → (∀ h', (∀ o j, o ≠ 29 → h' o j = h o j) → h' 29 0 = s'.1 → h' 29 1 = s'.2 → R 0 c h') → zCl (d + m) 180 [(2, 29), (0, (n : Int)), (0, u), (0, dn), (0, la)] c h R X := by
  intro m
  induction m with
  | zero =>
    intro u dn la s s' c h R X e
    cases e
  | succ m ih =>
    intro u dn la s s' c h R X e h0 h1 k
    rw [mTi] at e
    by_cases q : 0 ≤ u ∧ u < 128 ∧ 0 ≤ dn ∧ dn < 10000000 ∧ 0 ≤ la ∧ la < 1000
    · rw [if_pos q] at e
      show zCl (d + m + 1) 180 _ c h R X
      refine b_180 ⟨fun q1 => s_24 q.1 q.2.1 ⟨fun q2 => ?_, fun q2 => ?_⟩, fun q1 => ?_⟩
      · rw [if_pos (by omega), if_neg (by omega)] at e
        refine zDown (W := fun i => ∀ t h', mTl (fun i s => if zb u i = 0 then mTi n m (zOr u (zShl 1 i)) (dn * 10 + i) (la + mLck n (Int.tmod dn 10) i) s else some s) i s = some t → (∀ o j, o ≠ 29 → h' o j = h o j) → h' 29 0 = t.1 → h' 29 1 = t.2 → zWp (d + m + 1) 180 33 [(2, 29), (0, (n : Int)), (0, u), (0, dn), (0, la), (0, ((i + 1 : Nat) : Int))] [] (zTS c h') (zQ 0 R X)) n ?_ ?_ 0 (Nat.zero_le _) s h rfl (fun _ _ _ => rfl) h0 h1
        · intro t h' et f1 t0 t1
          rw [e] at et
          cases et
          exact b_180_33 ⟨fun _ => k h' f1 t0 t1, fun q => by omega⟩
        · intro i hi ihi t h' et f1 t0 t1
          obtain ⟨t2, e2⟩ := mTl_some e (i + 1) (by omega)
          have e3 := e2
          rw [mTl, et] at e3
          change (if zb u ((i + 1 : Nat) : Int) = 0 then mTi n m (zOr u (zShl 1 ((i + 1 : Nat) : Int))) (dn * 10 + ((i + 1 : Nat) : Int)) (la + mLck n (Int.tmod dn 10) ((i + 1 : Nat) : Int)) t else some t) = some t2 at e3
          have hmod : 0 ≤ Int.tmod dn 10 ∧ Int.tmod dn 10 ≤ 9 := by
            rw [Int.tmod_eq_emod_of_nonneg q.2.2.1]
            omega
          have hlk := mLck_r (n := (n : Int)) (a := Int.tmod dn 10) (b := ((i + 1 : Nat) : Int)) (by omega) hmod (by omega)
          refine b_180_33 ⟨fun q => by omega, fun _ => ⟨fun q2 => ?_, fun q2 => s_181 (by omega) hmod (by omega) ?_⟩⟩
          · rw [if_neg q2] at e3
            cases e3
            rw [w32_s (by omega)]
            exact ihi t h' e2 f1 t0 t1
          · rw [if_pos q2] at e3
            rw [w32_e (x := dn * 10) (by omega) (by omega), w32_e (x := dn * 10 + _) (by omega) (by omega), w32_e (x := la + _) (by omega) (by omega)]
            refine ih _ _ _ t t2 c h' _ X e3 t0 t1 (fun h2 g1 g2 g3 => ?_)
            rw [w32_s (by omega)]
            exact ihi t2 h2 e2 (fun o j q => by rw [g1 o j q, f1 o j q]) g2 g3
      · rw [if_pos (by omega), if_pos q2] at e
        cases e
        exact k _ (fun o j q => by rw [hw_ne (by omega), hw_ne (by omega)]) (by rw [hw_ne (by omega), hw_eq ⟨rfl, rfl⟩]) (hw_eq ⟨rfl, rfl⟩)
      · rw [if_neg (by omega)] at e
        cases e
        exact k h (fun _ _ _ => rfl) h0 h1
    · rw [if_neg q] at e
      cases e
/-- what cross answers -/
def mCr (n wh : Int) : Int := if wh = 0 then (if n = 4 then 1 else if n = 6 then 2 else 0) else (if n = 3 then 123 else if n = 4 then 1324 else if n = 5 then 13524 else 142536)
theorem s_179 {n : Nat} (hn : 3 ≤ n ∧ n ≤ 6) {d c : Nat} {h : zH} {R : Int → Nat → zH → Prop} {X : Nat → Nat → zH → Prop} (k : ∀ h', (∀ o j, o ≠ 29 → h' o j = h o j) → h' 29 0 = mCr n 0 → h' 29 1 = mCr n 1 → R 0 c h') : zCl (d + 8) 179 [(2, 29), (0, (n : Int))] c h R X := by
  refine b_179 ?_
  have key : ∀ s', mFi n = some s' → s' = (mCr n 0, mCr n 1) → zWp (d + 6 + 2) 179 13 [(2, 29), (0, (n : Int)), (0, 1)] [] (zTS c (hw (hw h 29 0 2147483647) 29 1 0)) (zQ 0 R X) := by
    intro s' e es
    unfold mFi at e
    refine zDown (W := fun i => ∀ t h', mTl (fun i s => mTi n 7 (zShl 1 i) i 0 s) i (2147483647, 0) = some t → (∀ o j, o ≠ 29 → h' o j = h o j) → h' 29 0 = t.1 → h' 29 1 = t.2 → zWp (d + 6 + 2) 179 13 [(2, 29), (0, (n : Int)), (0, ((i + 1 : Nat) : Int))] [] (zTS c h') (zQ 0 R X)) n ?_ ?_ 0 (Nat.zero_le _) (2147483647, 0) _ rfl (fun o j q => by rw [hw_ne (by omega), hw_ne (by omega)]) (by rw [hw_ne (by omega), hw_eq ⟨rfl, rfl⟩]) (hw_eq ⟨rfl, rfl⟩)
    · intro t h' et f1 t0 t1
      rw [e] at et
      cases et
      rw [es] at t0 t1
      exact b_179_13 ⟨fun _ => k h' f1 t0 t1, fun q => by omega⟩
    · intro i hi ihi t h' et f1 t0 t1
      obtain ⟨t2, e2⟩ := mTl_some e (i + 1) (by omega)
      have e3 := e2
      rw [mTl, et] at e3
      change mTi n 7 (zShl 1 ((i + 1 : Nat) : Int)) ((i + 1 : Nat) : Int) 0 t = some t2 at e3
      refine b_179_13 ⟨fun q => by omega, fun _ => s_180 hn (d := d) 7 _ _ _ t t2 c h' _ X e3 t0 t1 (fun h2 g1 g2 g3 => ?_)⟩
      rw [w32_s (by omega)]
      exact ihi t2 h2 e2 (fun o j q => by rw [g1 o j q, f1 o j q]) g2 g3
  have ok := mFi_ok
  rcases (by omega : n = 3 ∨ n = 4 ∨ n = 5 ∨ n = 6) with e | e | e | e <;> subst e
  · exact key _ ok.1 rfl
  · exact key _ ok.2.1 rfl
  · exact key _ ok.2.2.1 rfl
  · exact key _ ok.2.2.2 rfl
theorem s_308 {n : Nat} (hn : 3 ≤ n ∧ n ≤ 6) {d : Nat} : ∀ (m : Nat) (g l su dg : Int) (s s' : Int × Int) (c : Nat) (h : zH) (R : Int → Nat → zH → Prop) (X : Nat → Nat → zH → Prop), mCo n m g l su dg s = some s' → h 113 65 = s.1 → h 113 66 = s.2 → (∀ h', (∀ o j, ¬ (o = 113 ∧ (j = 65 ∨ j = 66)) → h' o j = h o j) → h' 113 65 = s'.1 → h' 113 66 = s'.2 → R 0 c h') → zCl (d + m) 308 [(2, 113), (0, (n : Int)), (0, g), (0, l), (0, su), (0, dg)] c h R X := by
  intro m
  induction m with
  | zero =>
    intro g l su dg s s' c h R X e
    cases e
  | succ m ih =>
    intro g l su dg s s' c h R X e h0 h1 k
    rw [mCo] at e
    by_cases q : 0 ≤ l ∧ l ≤ 9 ∧ 0 ≤ dg ∧ dg < 10000000 ∧ 0 ≤ su ∧ su < 1000
    · rw [if_pos q] at e
      show zCl (d + m + 1) 308 _ c h R X
      have es : w32 (zShl 1 (n : Int) - 1) = zShl 1 (n : Int) - 1 := by
        rcases (by omega : n = 3 ∨ n = 4 ∨ n = 5 ∨ n = 6) with e | e | e | e <;> subst e <;> decide
      refine b_308 ?_
      rw [es]
      refine ⟨fun q1 => ?_, fun q1 => ⟨fun q2 => ?_, fun q2 => ?_⟩⟩
      · rw [if_neg q1] at e
        refine zDown (W := fun i => ∀ t h', mTl (fun i s => if zb g (i - 1) = 0 then mCo n m (zOr g (zShl 1 (i - 1))) i (if l = 0 then su else su + mLck n l i) (10 * dg + i) s else some s) i s = some t → (∀ o j, ¬ (o = 113 ∧ (j = 65 ∨ j = 66)) → h' o j = h o j) → h' 113 65 = t.1 → h' 113 66 = t.2 → zWp (d + m + 1) 308 35 [(2, 113), (0, (n : Int)), (0, g), (0, l), (0, su), (0, dg), (0, ((i + 1 : Nat) : Int))] [] (zTS c h') (zQ 0 R X)) n ?_ ?_ 0 (Nat.zero_le _) s h rfl (fun _ _ _ => rfl) h0 h1
        · intro t h' et f1 t0 t1
          rw [e] at et
          cases et
          exact b_308_35 ⟨fun _ => k h' f1 t0 t1, fun q => by omega⟩
        · intro i hi ihi t h' et f1 t0 t1
          obtain ⟨t2, e2⟩ := mTl_some e (i + 1) (by omega)
          have e3 := e2
          rw [mTl, et] at e3
          change (if zb g (((i + 1 : Nat) : Int) - 1) = 0 then mCo n m (zOr g (zShl 1 (((i + 1 : Nat) : Int) - 1))) ((i + 1 : Nat) : Int) (if l = 0 then su else su + mLck n l ((i + 1 : Nat) : Int)) (10 * dg + ((i + 1 : Nat) : Int)) t else some t) = some t2 at e3
          have hlk := mLck_r (n := (n : Int)) (a := l) (b := ((i + 1 : Nat) : Int)) (by omega) (by omega) (by omega)
          have go : ∀ v, v = (if l = 0 then su else su + mLck n l ((i + 1 : Nat) : Int)) → zb g (((i + 1 : Nat) : Int) - 1) = 0 → zCl (d + m) 308 [(2, 113), (0, (n : Int)), (0, zOr g (zShl 1 (((i + 1 : Nat) : Int) - 1))), (0, ((i + 1 : Nat) : Int)), (0, v), (0, 10 * dg + ((i + 1 : Nat) : Int))] c h' (fun _ c h => zWp (d + m + 1) 308 35 [(2, 113), (0, (n : Int)), (0, g), (0, l), (0, su), (0, dg), (0, w32 (((i + 1 : Nat) : Int) + 1))] [] (zTS c h) (zQ 0 R X)) X := by
            intro v hv q2
            rw [if_pos q2, ← hv] at e3
            refine ih _ _ _ _ t t2 c h' _ X e3 t0 t1 (fun h2 g1 g2 g3 => ?_)
            rw [w32_s (by omega)]
            exact ihi t2 h2 e2 (fun o j q => by rw [g1 o j q, f1 o j q]) g2 g3
          refine b_308_35 ?_
          rw [w32_e (x := ((i + 1 : Nat) : Int) - 1) (by omega) (by omega)]
          refine ⟨fun q => by omega, fun _ => ⟨fun q2 => ?_, fun q2 => ⟨fun q3 => s_309 (by omega) (by omega) (by omega) ?_, fun q3 => ?_⟩⟩⟩
          · rw [if_neg q2] at e3
            cases e3
            rw [w32_s (by omega)]
            exact ihi t h' e2 f1 t0 t1
          · rw [w32_e (x := su + mLck n l _) (by omega) (by omega), w32_e (x := 10 * dg) (by omega) (by omega), w32_e (x := 10 * dg + _) (by omega) (by omega)]
            exact go _ (by rw [if_neg q3]) q2
          · rw [w32_e (x := su + 0) (by omega) (by omega), w32_e (x := 10 * dg) (by omega) (by omega), w32_e (x := 10 * dg + _) (by omega) (by omega)]
            exact go _ (by rw [if_pos q3]; omega) q2
      · rw [if_pos q1, if_pos (by omega)] at e
        cases e
        exact k _ (fun o j q => by rw [hw_ne (by omega), hw_ne (by omega)]) (by rw [hw_ne (by omega), hw_eq ⟨rfl, rfl⟩]) (hw_eq ⟨rfl, rfl⟩)
      · rw [if_pos q1, if_neg (by omega)] at e
        cases e
        exact k h (fun _ _ _ => rfl) h0 h1
    · rw [if_neg q] at e
      cases e
/-- the reference's row of before -/
def mCW (h : zH) : Prop := h 113 66 = 0 ∨ h 113 66 = 123 ∨ h 113 66 = 1324 ∨ h 113 66 = 13524 ∨ h 113 66 = 142536
theorem s_308f {n : Nat} (hn : 3 ≤ n ∧ n ≤ 6) {d c : Nat} {h : zH} {R : Int → Nat → zH → Prop} {X : Nat → Nat → zH → Prop} (h0 : h 113 65 = 1000000) (hW : mCW h) (k : ∀ h', (∀ o j, ¬ (o = 113 ∧ (j = 65 ∨ j = 66)) → h' o j = h o j) → h' 113 65 = mCr n 0 → h' 113 66 = mCr n 1 → mCW h' → R 0 c h') : zCl (d + 8) 308 [(2, 113), (0, (n : Int)), (0, 0), (0, 0), (0, 0), (0, 0)] c h R X := by
  have ok := mCo_ok (h 113 66) (by unfold mCW at hW; simp; omega)
  have key : ∀ s', mCo n 8 0 0 0 0 (1000000, h 113 66) = some s' → s' = (mCr n 0, mCr n 1) → (mCr n 1 = 123 ∨ mCr n 1 = 1324 ∨ mCr n 1 = 13524 ∨ mCr n 1 = 142536) → zCl (d + 8) 308 [(2, 113), (0, (n : Int)), (0, 0), (0, 0), (0, 0), (0, 0)] c h R X := by
    intro s' e es er
    refine s_308 hn (d := d) 8 0 0 0 0 _ s' c h R X e h0 rfl (fun h' f1 f2 f3 => ?_)
    rw [es] at f2 f3
    refine k h' f1 f2 f3 ?_
    unfold mCW
    rw [f3]
    exact Or.inr er
  rcases (by omega : n = 3 ∨ n = 4 ∨ n = 5 ∨ n = 6) with e | e | e | e <;> subst e
  · exact key _ ok.1 rfl (by decide)
  · exact key _ ok.2.1 rfl (by decide)
  · exact key _ ok.2.2.1 rfl (by decide)
  · exact key _ ok.2.2.2 rfl (by decide)
