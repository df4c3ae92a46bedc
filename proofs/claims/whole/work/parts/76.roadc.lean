/-! the road's text: rains added up, needs followed; all of it, the class -/
theorem s_83u {d c : Nat} {h : zH} {R : Int → Nat → zH → Prop} {X : Nat → Nat → zH → Prop} {t : Int} (ht : zIsR t) (k : ∀ h', (∀ o j, o ≠ t + 2 → h' o j = h o j) → R 0 c h') : zCl d 83 [(2, t)] c h R X := by
  refine b_83 ht ?_
  have main := zDown (W := fun i : Nat => 1 ≤ i → ∀ h1, (∀ o j, o ≠ t + 2 → h1 o j = h o j) → zWp d 83 2 [(2, t), (0, (i : Int))] [] (zTS c h1) (zQ 0 R X)) 242 ?_ ?_ 1 (by decide) (by decide) h (fun _ _ _ => rfl)
  · exact main
  · intro _ h1 f1
    exact b_83_2 ht ⟨fun _ => k h1 f1, fun w => by omega⟩
  · intro i hi ih i1 h1 f1
    refine b_83_2 ht ⟨fun w => by omega, fun _ => ⟨by omega, by rw [w32_e (by omega) (by omega)]; omega, by omega, ?_⟩⟩
    rw [w32_s (by omega)]
    exact ih (by omega) _ (fun o j a => by rw [hw_ne (by omega), f1 o j a])
theorem s_83 {d c : Nat} {h : zH} {R : Int → Nat → zH → Prop} {X : Nat → Nat → zH → Prop} {t : Int} {g : Int → Int} (ht : zIsR t) (h0 : h (t + 2) 0 = 0) (hg : ∀ k : Int, 0 ≤ k → k < 241 → h (t + 2) (k + 1) = g k ∧ 0 ≤ g k ∧ g k ≤ 1) (k : ∀ h', (∀ o j, o ≠ t + 2 → h' o j = h o j) → (∀ k : Int, 0 ≤ k → k ≤ 241 → h' (t + 2) k = mSum g k.toNat) → R 0 c h') : zCl d 83 [(2, t)] c h R X := by
  refine b_83 ht ?_
  have main := zDown (W := fun i : Nat => 1 ≤ i → ∀ h1, (∀ o j, o ≠ t + 2 → h1 o j = h o j) → (∀ k : Int, 0 ≤ k → k < i → h1 (t + 2) k = mSum g k.toNat) → (∀ k : Int, (i : Int) ≤ k → k < 242 → h1 (t + 2) k = h (t + 2) k) → zWp d 83 2 [(2, t), (0, (i : Int))] [] (zTS c h1) (zQ 0 R X)) 242 ?_ ?_ 1 (by decide) (by decide) h (fun _ _ _ => rfl) (fun k a b => by rw [show k = 0 by omega, h0]; rfl) (fun _ _ _ => rfl)
  · exact main
  · intro _ h1 f1 g1 g2
    exact b_83_2 ht ⟨fun _ => k h1 f1 (fun k a b => g1 k a (by omega)), fun w => by omega⟩
  · intro i hi ih i1 h1 f1 g1 g2
    refine b_83_2 ht ⟨fun w => by omega, fun _ => ⟨by omega, by rw [w32_e (by omega) (by omega)]; omega, by omega, ?_⟩⟩
    have e1 := g2 i (by omega) (by omega)
    have e2 := hg ((i : Int) - 1) (by omega) (by omega)
    rw [show (i : Int) - 1 + 1 = i by omega] at e2
    have e3 := g1 ((i : Int) - 1) (by omega) (by omega)
    have e4 := mSum_le (f := g) (b := 1) (n := i - 1) (fun j hj => (hg j (by omega) (by omega)).2)
    have e5 : mSum g i = mSum g (i - 1) + g ((i : Int) - 1) := by
      have : i = (i - 1) + 1 := by omega
      rw [this, mSum, show ((i - 1 + 1 - 1 : Nat)) = i - 1 by omega, show (((i - 1 : Nat) : Int)) = (((i - 1 + 1 : Nat) : Int)) - 1 by omega]
    rw [show ((i : Int) - 1).toNat = i - 1 by omega] at e3
    rw [w32_e (x := (i : Int) - 1) (by omega) (by omega), e1, e2.1, e3, w32_e (x := g ((i : Int) - 1) + mSum g (i - 1)) (by omega) (by omega), w32_s (by omega)]
    refine ih (by omega) _ (fun o j a => by rw [hw_ne (by omega), f1 o j a]) (fun k a b => ?_) (fun k a b => by rw [hw_ne (by omega)]; exact g2 k (by omega) b)
    by_cases w : k = i
    · rw [hw_eq ⟨rfl, w⟩, w, show ((i : Int)).toNat = i by omega, e5]
      omega
    · rw [hw_ne (by omega)]
      exact g1 k a (by omega)
theorem s_84u {d c : Nat} {h : zH} {R : Int → Nat → zH → Prop} {X : Nat → Nat → zH → Prop} {t : Int} {D : Nat} (ht : zIsR t) (hD : h (t + 1) 1 = D) (hD' : D ≤ 12) (k : ∀ h', (∀ o j, o ≠ t + 13 → o ≠ t + 14 → h' o j = h o j) → R 0 c h') : zCl (d + 1) 84 [(2, t)] c h R X := by
  refine b_84 ht ?_
  have main := zDown (W := fun e : Nat => ∀ h1, (∀ o j, o ≠ t + 13 → o ≠ t + 14 → h1 o j = h o j) → zWp (d + 1) 84 2 [(2, t), (0, (e : Int)), (9, 0), (9, 0), (9, 0)] [] (zTS c h1) (zQ 0 R X)) D ?_ ?_ 0 (by omega) h (fun _ _ _ _ => rfl)
  · exact main
  · intro h1 f1
    exact b_84_2 ht ⟨fun _ => k h1 f1, fun w => by rw [f1 _ _ (by omega) (by omega), hD] at w; omega⟩
  · intro e he ih h1 f1
    refine b_84_2 ht ⟨fun w => by rw [f1 _ _ (by omega) (by omega), hD] at w; omega, fun _ => ⟨by omega, ?_⟩⟩
    have inner := zDown (W := fun j : Nat => ∀ x y, zWp (d + 1) 84 24 [(2, t), (0, (e : Int)), (0, x), (0, y), (0, (j : Int))] [] (zTS c h1) (zQ 0 R X)) e ?_ ?_ 0 (by omega) (h1 (t + 12) e) 0
    · exact inner
    · intro x y
      refine b_84_24 ht ⟨fun _ => ⟨by omega, by omega, by omega, ?_⟩, fun w => by omega⟩
      rw [w32_s (by omega)]
      exact ih _ (fun o j a b => by rw [hw_ne (by omega), hw_ne (by omega), f1 o j a b])
    · intro j hj ih2 x y
      refine b_84_24 ht ⟨fun w => by omega, fun _ => ⟨by omega, fun _ => ?_, fun _ => ⟨by omega, by omega, ?_⟩⟩⟩
      · rw [w32_s (by omega)]
        exact ih2 _ _
      · rw [w32_s (by omega)]
        exact ih2 _ _
theorem s_84 {d c : Nat} {h r : zH} {R : Int → Nat → zH → Prop} {X : Nat → Nat → zH → Prop} {t : Int} (ht : zIsR t) (wr : wRoad r) (hd : h (t + 1) 1 = r 0 1) (h8 : ∀ k : Int, 0 ≤ k → k < r 0 1 → h (t + 8) k = r 2 k ∧ h (t + 12) k = r 6 k) (k : ∀ h', (∀ o j, o ≠ t + 13 → o ≠ t + 14 → h' o j = h o j) → (∀ k : Int, 0 ≤ k → k < r 0 1 → h' (t + 13) k = mAh r (r 0 1).toNat k ∧ h' (t + 14) k = mCh r (r 0 1).toNat k) → R 0 c h') : zCl (d + 1) 84 [(2, t)] c h R X := by
  have wd := wr_d wr
  obtain ⟨D, hD⟩ : ∃ D : Nat, r 0 1 = D := ⟨(r 0 1).toNat, by omega⟩
  rw [hD] at hd h8 k wd
  rw [Int.toNat_natCast] at k
  refine b_84 ht ?_
  have main := zDown (W := fun e : Nat => ∀ h1, (∀ o j, o ≠ t + 13 → o ≠ t + 14 → h1 o j = h o j) → (∀ k : Nat, k < e → h1 (t + 13) k = mAh r D k ∧ h1 (t + 14) k = mCh r D k) → zWp (d + 1) 84 2 [(2, t), (0, (e : Int)), (9, 0), (9, 0), (9, 0)] [] (zTS c h1) (zQ 0 R X)) D ?_ ?_ 0 (by omega) h (fun _ _ _ _ => rfl) (fun k hk => by omega)
  · exact main
  · intro h1 f1 g1
    refine b_84_2 ht ⟨fun _ => k h1 f1 (fun k a b => ?_), fun w => by rw [f1 _ _ (by omega) (by omega), hd] at w; omega⟩
    have := g1 k.toNat (by omega)
    rw [Int.toNat_of_nonneg a] at this
    exact this
  · intro e he ih h1 f1 g1
    refine b_84_2 ht ⟨fun w => by rw [f1 _ _ (by omega) (by omega), hd] at w; omega, fun _ => ⟨by omega, ?_⟩⟩
    have e12 : h1 (t + 12) e = r 6 e := by rw [f1 _ _ (by omega) (by omega), (h8 e (by omega) (by omega)).2]
    have e8 : h1 (t + 8) e = r 2 e := by rw [f1 _ _ (by omega) (by omega), (h8 e (by omega) (by omega)).1]
    have inner := zDown (W := fun j : Nat => zWp (d + 1) 84 24 [(2, t), (0, (e : Int)), (0, mOrs (r 6 e) (zb (r 6 e)) (mAh r e) j), (0, mMx (mCh r e) (zb (r 6 e)) j), (0, (j : Int))] [] (zTS c h1) (zQ 0 R X)) e ?_ ?_ 0 (by omega)
    · rw [e12]
      exact inner
    · refine b_84_24 ht ⟨fun _ => ⟨by omega, by omega, by omega, ?_⟩, fun w => by omega⟩
      have c1 := mCh_s (r := r) (n := D) (d := e) he
      have c2 := mCh_r wr D (by omega) e he
      have a1 := mAh_s (r := r) (n := D) (d := e) he
      rw [hw_ne (by omega), e8, w32_s (by omega), ← c1, ← a1, w32_e (by omega) (by omega)]
      refine ih _ (fun o j a b => by rw [hw_ne (by omega), hw_ne (by omega), f1 o j a b]) (fun k hk => ?_)
      by_cases w : k = e
      · subst w
        exact ⟨by rw [hw_ne (by omega), hw_eq ⟨rfl, rfl⟩], by rw [hw_eq ⟨rfl, rfl⟩]⟩
      · rw [hw_ne (by omega), hw_ne (by omega), hw_ne (by omega), hw_ne (by omega)]
        exact g1 k (by omega)
    · intro j hj ih2
      have g := g1 j hj
      rw [mAh_s (r := r) (n := D) (d := j) (by omega), ← mAh_s (r := r) (n := e) (d := j) hj, mCh_s (r := r) (n := D) (d := j) (by omega), ← mCh_s (r := r) (n := e) (d := j) hj] at g
      refine b_84_24 ht ⟨fun w => by omega, fun _ => ⟨by omega, fun w => ?_, fun w => ⟨by omega, by omega, ?_⟩⟩⟩
      · rw [e12] at w
        rw [mOrs, mMx, if_neg w, if_neg w] at ih2
        rw [w32_s (by omega)]
        exact ih2
      · rw [e12] at w
        rw [mOrs, mMx, if_pos w, if_pos w] at ih2
        rw [w32_s (by omega), g.1, g.2]
        exact ih2
/-- the draft that nothing has been told of -/
def q00 : zH := fun o k => if o = 7 then 3 else if o = 0 then (if k = 5 then 20 else if k = 6 then 2 else if k = 7 then 0 else if k = 8 then 30 else 5) else 0
theorem q00_w : wDf (fun _ => 0) q00 := by
  refine ⟨fun k a b => ?_, ?_, fun k a b => ?_, fun k a b => ?_, fun k a b => ?_, fun k a b => ?_, fun k a b => ?_, fun k a b => ?_, fun k a b => ?_, fun k a b => ?_⟩
  · have := kM_r a b
    show (0 : Int) ≤ 0 ∧ 0 ≤ kM k
    omega
  · unfold wDfB
    decide
  · exact absurd b (show ¬ k < (0 : Int) by omega)
  · exact absurd b (show ¬ k < (0 : Int) by omega)
  · have : (0 : Int) < 2 ^ k.toNat := Int.pow_pos (by decide)
    exact ⟨⟨Int.le_refl _, this⟩, fun _ => rfl⟩
  · show (0 : Int) ≤ 3 ∧ (3 : Int) ≤ 20
    decide
  · exact absurd b (show ¬ k < (0 : Int) by omega)
  · exact absurd b (show ¬ k < (0 : Int) by omega)
  · exact absurd b (show ¬ k < (0 : Int) by omega)
  · show (0 : Int) ≤ 0 ∧ (0 : Int) ≤ 1
    decide
abbrev rRd (T : Int → Int) (n a : Int) : ((Int × Int) ⊕ Int) × (Int → Int) × zH := rLp T n 61 0 (fun _ => 0) q00 a
theorem s_8 {d c : Nat} {h : zH} {R : Int → Nat → zH → Prop} {X : Nat → Nat → zH → Prop} {t : Int} (ht : t = 30 ∨ t = 50) (k : ∀ h', (∀ o j, ¬ (t ≤ o ∧ o ≤ t + 19) → h' o j = h o j) → cDr t h' q00 (fun _ => 0) → (∀ k : Int, 0 ≤ k → k < 12 → h' (t + 1) k = 0) → R 0 c h') : zCl (d + 1) 8 [(2, t)] c h R X := by
  have zo : ((zK (t + 1)).1 = 50 ∧ ((zK (t + 1)).2 : Int) = 12) ∧ ((zK (t + 2)).1 = 50 ∧ ((zK (t + 2)).2 : Int) = 242) ∧ ((zK (t + 6)).1 = 50 ∧ ((zK (t + 6)).2 : Int) = 60) ∧ ((zK (t + 12)).1 = 50 ∧ ((zK (t + 12)).2 : Int) = 12) := by
    rcases ht with e | e <;> subst e
    · exact ⟨zo_31, zo_32, zo_36, zo_42⟩
    · exact ⟨zo_51, zo_52, zo_56, zo_62⟩
  refine b_8 ht (s_9 zo.1 (by decide) (fun h1 f1 g1 => s_9 zo.2.1 (by decide) (fun h2 f2 g2 => s_9 zo.2.2.1 (by decide) (fun h3 f3 g3 => s_9 zo.2.2.2 (by decide) (fun h4 f4 g4 => ?_)))))
  refine k _ (fun o j a => ?_) ?_ (fun k a b => ?_)
  · rw [hw_ne (by omega), hw_ne (by omega), hw_ne (by omega), hw_ne (by omega), hw_ne (by omega), f4 _ _ (by omega), f3 _ _ (by omega), f2 _ _ (by omega), f1 _ _ (by omega)]
  · refine ⟨⟨?_, ?_, ?_, ?_, ?_⟩, fun k a b => ?_, fun k a b => ?_, fun k a b => ?_, fun k a b => ?_, fun k a b => ?_, fun k a b => ?_, fun k a b => ?_, ?_, fun k a b => ?_⟩
    · rw [hw_ne (by omega), hw_ne (by omega), hw_ne (by omega), hw_ne (by omega), hw_eq ⟨rfl, rfl⟩]; rfl
    · rw [hw_ne (by omega), hw_ne (by omega), hw_ne (by omega), hw_eq ⟨rfl, rfl⟩]; rfl
    · rw [hw_ne (by omega), hw_ne (by omega), hw_eq ⟨rfl, rfl⟩]; rfl
    · rw [hw_ne (by omega), hw_eq ⟨rfl, rfl⟩]; rfl
    · rw [hw_eq ⟨rfl, rfl⟩]; rfl
    · exact absurd b (show ¬ k < (0 : Int) by omega)
    · exact absurd b (show ¬ k < (0 : Int) by omega)
    · rw [hw_ne (by omega), hw_ne (by omega), hw_ne (by omega), hw_ne (by omega), hw_ne (by omega), g4 k a b]; rfl
    · rw [hw_ne (by omega), hw_ne (by omega), hw_ne (by omega), hw_ne (by omega), hw_ne (by omega), f4 _ _ (by omega), g3 k a b]; rfl
    · exact absurd b (show ¬ k < (0 : Int) by omega)
    · exact absurd b (show ¬ k < (0 : Int) by omega)
    · exact absurd b (show ¬ k < (0 : Int) by omega)
    · rw [hw_ne (by omega), hw_ne (by omega), hw_ne (by omega), hw_ne (by omega), hw_ne (by omega), f4 _ _ (by omega), f3 _ _ (by omega), g2 0 (by decide) (by decide)]
    · rw [hw_ne (by omega), hw_ne (by omega), hw_ne (by omega), hw_ne (by omega), hw_ne (by omega), f4 _ _ (by omega), f3 _ _ (by omega), g2 (k + 1) (by omega) (by omega)]; rfl
  · rw [hw_ne (by omega), hw_ne (by omega), hw_ne (by omega), hw_ne (by omega), hw_ne (by omega), f4 _ _ (by omega), f3 _ _ (by omega), f2 _ _ (by omega), g1 k a b]
theorem rCl_60 {T : Int → Int} {n i a : Int} {m : Int → Int} {q : zH} (hi : 60 ≤ i) : ¬ isOkS (rCl T n i m q a).1 := by
  unfold rCl
  by_cases h1 : kW T n a = -1
  · rw [if_pos h1]
    exact fun x => x
  · rw [if_neg h1, if_pos (Or.inl hi)]
    exact fun x => x
theorem s_64 {d c : Nat} {T : Int → Int} {n : Int} (wt : wTape T n) {R : Int → Nat → zH → Prop} {X : Nat → Nat → zH → Prop} {h : zH} {t : Int} (ht : t = 30 ∨ t = 50) (ct : cTape h T n) (ha : 0 ≤ h 2 2 ∧ h 2 2 ≤ n) (h4 : h 2 4 = 0) (K : ∀ h', (∀ o j, ¬ cTs o j → ¬ (t ≤ o ∧ o ≤ t + 19) → h' o j = h o j) → cPs h' n (h 2 6) (rRd T n (h 2 2)).1 → (isOkS (rRd T n (h 2 2)).1 → cRoad t h' (rEnd (rRd T n (h 2 2)).2.1 (rRd T n (h 2 2)).2.2) ∧ wDf (rRd T n (h 2 2)).2.1 (rRd T n (h 2 2)).2.2) → R 0 c h') : zCl (d + 5) 64 [(2, t), (2, 2)] c h R X := by
  have k1 : kM 1 = 12 := rfl
  have bad : ∀ (m : Int → Int) (h3 : zH), (∀ o j, ¬ cTs o j → ¬ (t ≤ o ∧ o ≤ t + 19) → h3 o j = h o j) → (∀ k : Int, 0 ≤ k → k < 12 → h3 (t + 1) k = m k) → (∀ k : Int, 0 ≤ k → k < 12 → 0 ≤ m k ∧ m k ≤ kM k) → cPs h3 n (h 2 6) (rRd T n (h 2 2)).1 → ¬ isOkS (rRd T n (h 2 2)).1 → zCl (d + 4) 83 [(2, t)] c h3 (fun _ c h => zCl (d + 4) 84 [(2, t)] c h (fun _ c h => R 0 c h) X) X := by
    intro m h3 f3 hM wM ps nok
    have m1 := wM 1 (by decide) (by decide)
    refine s_83u ht (fun h4 f4 => s_84u (D := (m 1).toNat) ht (by rw [f4 _ _ (by omega), hM 1 (by decide) (by decide)]; omega) (by omega) (fun h5 f5 => ?_))
    refine K h5 (fun o j a b => by rw [f5 o j (by omega) (by omega), f4 o j (by omega), f3 o j a b]) (cPs_fr ⟨?_, ?_, ?_⟩ ps) (fun ok => absurd ok nok)
    · rw [f5 _ _ (by omega) (by omega), f4 _ _ (by omega)]
    · rw [f5 _ _ (by omega) (by omega), f4 _ _ (by omega)]
    · rw [f5 _ _ (by omega) (by omega), f4 _ _ (by omega)]
  have good : ∀ (m : Int → Int) (q h3 : zH), (∀ o j, ¬ cTs o j → ¬ (t ≤ o ∧ o ≤ t + 19) → h3 o j = h o j) → (∀ k : Int, 0 ≤ k → k < 12 → h3 (t + 1) k = m k) → wDf m q → cDr t h3 q m → cPs h3 n (h 2 6) (.inr n) → rRd T n (h 2 2) = (.inr n, m, q) → zCl (d + 4) 83 [(2, t)] c h3 (fun _ c h => zCl (d + 4) 84 [(2, t)] c h (fun _ c h => R 0 c h) X) X := by
    intro m q h3 f3 hM wM cd ps er
    rw [er] at K
    dsimp only at K
    have wr := rEnd_w wM
    have wJ : wDfJ m q := wM.2.2.2.2.2.2.2.2.2
    unfold wDfJ at wJ
    have m1 := wM.1 1 (by decide) (by decide)
    obtain ⟨⟨a1, a2, a3, a4, a5⟩, b, c2, d2, e, f, g, i, j1, j2⟩ := cd
    have er1 : rEnd m q 0 1 = m 1 := rfl
    refine s_83 (g := q 14) ht j1 (fun k a b => ⟨j2 k a b, wJ k a b⟩) (fun h4 f4 g4 => ?_)
    refine s_84 ht wr (by rw [f4 _ _ (by omega), hM 1 (by decide) (by decide)]; rfl) (fun k a b => ?_) (fun h5 f5 g5 => ?_)
    · rw [er1] at b
      rw [f4 _ _ (by omega), f4 _ _ (by omega), rEnd_o (by omega), rEnd_o (by omega)]
      exact ⟨(c2 k a b).1, d2 k a (by omega)⟩
    · refine K h5 (fun o j a b => by rw [f5 o j (by omega) (by omega), f4 o j (by omega), f3 o j a b]) (cPs_fr ⟨?_, ?_, ?_⟩ ps) (fun _ => ⟨?_, wM⟩)
      · rw [f5 _ _ (by omega) (by omega), f4 _ _ (by omega)]
      · rw [f5 _ _ (by omega) (by omega), f4 _ _ (by omega)]
      · rw [f5 _ _ (by omega) (by omega), f4 _ _ (by omega)]
      · have ff : ∀ o j, o ≠ t + 2 → o ≠ t + 13 → o ≠ t + 14 → h5 o j = h3 o j := fun o j a b c => by rw [f5 o j b c, f4 o j a]
        refine ⟨?_, ?_, ?_, ?_, ?_, ?_, ?_, ?_, ?_, ?_, fun k a b => ?_, fun k a b => ?_, fun k a b => ?_, fun k a b => ?_, fun k a b => ?_, fun k a b => ?_, fun k a b => ?_⟩
        · rw [ff _ _ (by omega) (by omega) (by omega), hM 0 (by decide) (by decide)]; rfl
        · rw [ff _ _ (by omega) (by omega) (by omega), hM 1 (by decide) (by decide)]; rfl
        · rw [ff _ _ (by omega) (by omega) (by omega), hM 5 (by decide) (by decide)]; rfl
        · rw [ff _ _ (by omega) (by omega) (by omega), hM 7 (by decide) (by decide)]; rfl
        · rw [ff _ _ (by omega) (by omega) (by omega), hM 9 (by decide) (by decide)]; rfl
        · rw [ff _ _ (by omega) (by omega) (by omega), a1]; rfl
        · rw [ff _ _ (by omega) (by omega) (by omega), a2]; rfl
        · rw [ff _ _ (by omega) (by omega) (by omega), a3]; rfl
        · rw [ff _ _ (by omega) (by omega) (by omega), a4]; rfl
        · rw [ff _ _ (by omega) (by omega) (by omega), a5]; rfl
        · rw [ff _ _ (by omega) (by omega) (by omega), rEnd_o (by omega)]; exact ‹∀ k : Int, 0 ≤ k → k < m 0 → h3 (t + 5) k = q 1 k› k a b
        · have b' : k < m 1 := b
          rw [ff _ _ (by omega) (by omega) (by omega), ff _ _ (by omega) (by omega) (by omega), ff _ _ (by omega) (by omega) (by omega), ff _ _ (by omega) (by omega) (by omega), ff _ _ (by omega) (by omega) (by omega), rEnd_o (by omega), rEnd_o (by omega), rEnd_o (by omega), rEnd_o (by omega), rEnd_o (by omega)]
          have x := c2 k a b'
          exact ⟨x.1, x.2.1, x.2.2.1, x.2.2.2, d2 k a (by omega), g5 k a b⟩
        · rw [ff _ _ (by omega) (by omega) (by omega), rEnd_o (by omega)]; exact e k a b
        · rw [ff _ _ (by omega) (by omega) (by omega), rEnd_o (by omega)]; exact f k a b
        · rw [ff _ _ (by omega) (by omega) (by omega), rEnd_o (by omega)]; exact g k a b
        · rw [ff _ _ (by omega) (by omega) (by omega), ff _ _ (by omega) (by omega) (by omega), ff _ _ (by omega) (by omega) (by omega), ff _ _ (by omega) (by omega) (by omega), rEnd_o (by omega), rEnd_o (by omega), rEnd_o (by omega), rEnd_o (by omega)]; exact i k a b
        · rw [f5 _ _ (by omega) (by omega), g4 k a b, rEnd_r (by decide)]
  have loop : ∀ (f : Nat) (i : Int) (m : Int → Int) (q h2 : zH), i + f = 61 → (0 ≤ i ∧ i ≤ 60) → wDf m q → cDr t h2 q m → (∀ k : Int, 0 ≤ k → k < 12 → h2 (t + 1) k = m k) → (∀ o j, ¬ cTs o j → ¬ (t ≤ o ∧ o ≤ t + 19) → h2 o j = h o j) → (0 ≤ h2 2 2 ∧ h2 2 2 ≤ n) → h2 2 4 = 0 → h2 2 6 = h 2 6 → rLp T n f i m q (h2 2 2) = rRd T n (h 2 2) → zWp (d + 5) 64 6 [(2, t), (2, 2), (0, i)] [] (zTS c h2) (zQ 0 R X) := by
    intro f
    induction f with
    | zero =>
      intro i m q h2 hf hi
      omega
    | succ f ih =>
      intro i m q h2 hf hi wM cd hM f2 a2 e4 e6 he
      have w1 := wt.1
      have hbe := nBE (T := T) a2.2
      have ct2 : cTape h2 T n := ⟨by rw [f2 _ _ (by unfold cTs; omega) (by omega)]; exact ct.1, fun k x y => by rw [f2 _ _ (by unfold cTs; omega) (by omega)]; exact ct.2 k x y⟩
      rw [rLp] at he
      refine b_64_6 ht ⟨fun w => by omega, fun _ => s_65 wt ct2 a2 e4 (fun q1 h3 f3 g3 => ⟨fun w => absurd w (by decide), fun _ => ?_⟩) (fun q1 h3 f3 g3 => ⟨fun _ => ?_, fun w => absurd rfl w⟩)⟩
      · rw [if_pos q1] at he
        have er : rCl T n i m q (h3 2 2) = rCl T n i m q (h2 2 2) := by rw [g3, rCl_i a2.2]
        have f3' : ∀ o j, ¬ cTs o j → h3 o j = h2 o j := fun o j w => f3 o j (by have := cTs2 w; omega)
        have cd3 : cDr t h3 q m := cDr_fr (fun o j o1 o2 un => f3 o j (by omega)) cd
        refine s_67 (pl := h 2 6) wt ht (cTape_fr f3' ct2) (by omega) (by rw [f3 _ _ (by omega)]; exact e4) (by rw [f3 _ _ (by omega)]; exact e6) cd3 (fun k a b => by rw [f3 _ _ (by omega)]; exact hM k a b) wM.1 (fun h4 f4 p4 c4 g4 => ?_)
        rw [er] at p4 c4 g4
        have ff : ∀ o j, ¬ cTs o j → ¬ (t ≤ o ∧ o ≤ t + 19) → h4 o j = h o j := fun o j a b => by rw [f4 o j a b, f3' o j a, f2 o j a b]
        have wM' := rCl_m (T := T) (n := n) (i := i) (a := h2 2 2) (q := q) wM.1
        cases hst : (rCl T n i m q (h2 2 2)).1 with
        | inl e =>
          rw [hst] at he p4
          dsimp only at he
          have nok : ¬ isOkS (rRd T n (h 2 2)).1 := by rw [← he]; exact fun x => x
          have fin := bad _ h4 ff g4 wM' (by rw [← he]; exact p4) nok
          rw [w32_e (by omega) (by omega)]
          exact b_64_6 ht ⟨fun _ => fin, fun _ => s_65u (by have := p4.1; have := p4.2.2.1; omega) ⟨fun _ => fin, fun w => absurd rfl w⟩⟩
        | inr a' =>
          have ok : isOkS (rCl T n i m q (h2 2 2)).1 := by rw [hst]; trivial
          have i60 : i < 60 := by
            by_cases w : 60 ≤ i
            · exact absurd ok (rCl_60 w)
            · omega
          have wM2 := rCl_w wM ok
          have c4' := c4 ok
          rw [hst] at he p4
          dsimp only at he
          obtain ⟨p41, p42, p43, p44⟩ := p4
          rw [w32_e (by omega) (by omega)]
          exact ih (i + 1) _ _ h4 (by omega) (by omega) wM2 c4' g4 ff (by omega) p41 p42 (by rw [p43]; exact he)
      · rw [if_neg q1] at he
        have ps3 : cPs h3 n (h 2 6) (.inr n) := ⟨by rw [f3 _ _ (by omega)]; exact e4, by rw [f3 _ _ (by omega)]; exact e6, g3, by show 0 ≤ n ∧ n ≤ n; omega⟩
        exact good m q h3 (fun o j a b => by rw [f3 o j (by have := cTs2 a; omega), f2 o j a b]) (fun k a b => by rw [f3 _ _ (by omega)]; exact hM k a b) wM (cDr_fr (fun o j o1 o2 un => f3 o j (by omega)) cd) ps3 he.symm
  refine b_64 ht (s_8 ht (fun h1 f1 c1 g1 => loop 61 0 (fun _ => 0) q00 h1 (by decide) (by decide) q00_w c1 g1 (fun o j a b => f1 o j b) ?_ ?_ ?_ ?_))
  · rw [f1 _ _ (by omega)]
    exact ha
  · rw [f1 _ _ (by omega)]
    exact h4
  · rw [f1 _ _ (by omega)]
  · rw [f1 _ _ (by omega)]
