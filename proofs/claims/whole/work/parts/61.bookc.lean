/-! the book's text: all lines -/
theorem mBl_i {T : Int → Int} {n a : Int} {s : Int → Int} (h : a ≤ n) : mBl T n (nB T n a) s = mBl T n a s := by
  unfold mBl
  rw [nF_i h, nV_i h, nE_i h, nB_i h]
theorem s_65 {d c : Nat} {T : Int → Int} {n : Int} (wt : wTape T n) {R : Int → Nat → zH → Prop} {X : Nat → Nat → zH → Prop} {h : zH} (ct : cTape h T n) (ha : 0 ≤ h 2 2 ∧ h 2 2 ≤ n) (h4 : h 2 4 = 0) (k1 : nB T n (h 2 2) < n → ∀ h', (∀ o j, ¬ (o = 2 ∧ j = 2) → h' o j = h o j) → h' 2 2 = nB T n (h 2 2) → R 1 c h') (k0 : ¬ nB T n (h 2 2) < n → ∀ h', (∀ o j, ¬ (o = 2 ∧ j = 2) → h' o j = h o j) → h' 2 2 = n → R 0 c h') : zCl (d + 1) 65 [(2, 2)] c h R X := by
  have hbe := nBE (T := T) ha.2
  refine b_65 ⟨fun q => absurd h4 q, fun _ => s_66 wt ct ha (fun h1 f1 e2 => ?_)⟩
  have eB : run isB T n (h 2 2) = nB T n (h 2 2) := rfl
  rw [eB] at e2 ⊢
  by_cases q : nB T n (h 2 2) < n
  · have := wt.2 (nB T n (h 2 2)) (by omega) q
    rw [if_pos q]
    exact ⟨fun w => by omega, fun _ => k1 q h1 f1 e2⟩
  · rw [if_neg q]
    exact ⟨fun _ => k0 q h1 f1 (by omega), fun w => absurd rfl w⟩
theorem s_65u {d c : Nat} {R : Int → Nat → zH → Prop} {X : Nat → Nat → zH → Prop} {h : zH} (h4 : h 2 4 ≠ 0) (k : R 0 c h) : zCl (d + 1) 65 [(2, 2)] c h R X := b_65 ⟨fun _ => k, fun q => absurd q h4⟩
theorem s_225 {d c : Nat} {T : Int → Int} {n : Int} (wt : wTape T n) {R : Int → Nat → zH → Prop} {X : Nat → Nat → zH → Prop} {h : zH} (mt : mTape h T n) (ha : 0 ≤ h 113 4 ∧ h 113 4 ≤ n) (k1 : nB T n (h 113 4) < n → ∀ h', (∀ o j, ¬ (o = 113 ∧ j = 4) → h' o j = h o j) → h' 113 4 = nB T n (h 113 4) → R 1 c h') (k0 : ¬ nB T n (h 113 4) < n → ∀ h', (∀ o j, ¬ (o = 113 ∧ j = 4) → h' o j = h o j) → h' 113 4 = n → R 0 c h') : zCl (d + 1) 225 [(2, 113)] c h R X := by
  have hbe := nBE (T := T) ha.2
  refine b_225 (s_226 wt mt ha (fun h1 f1 e2 => ?_))
  have eB : run isB T n (h 113 4) = nB T n (h 113 4) := rfl
  have e3 : h1 113 3 = n := by rw [f1 _ _ (by omega), mt.1]
  rw [eB] at e2
  rw [e3, e2]
  exact ⟨fun q => k0 (by omega) h1 f1 (by omega), fun q => k1 q h1 f1 e2⟩
theorem s_109 {d c : Nat} {T : Int → Int} {n : Int} (wt : wTape T n) {R : Int → Nat → zH → Prop} {X : Nat → Nat → zH → Prop} {h : zH} {b : Int} (hb : zIsB b) (ct : cTape h T n) (ha : 0 ≤ h 2 2 ∧ h 2 2 ≤ n) (h4 : h 2 4 = 0) (kf : ∀ K PL, mBk T n 4 (h 2 2) (fun _ => -1) 0 = .inl (K, PL) → ∀ h', (∀ o j, ¬ cTs o j → o ≠ b → o ≠ b + 1 → h' o j = h o j) → h' 2 4 = K → h' 2 6 = PL → R 0 c h') (ks : ∀ s cn, mBk T n 4 (h 2 2) (fun _ => -1) 0 = .inr (s, cn) → ∀ h', (∀ o j, ¬ cTs o j → o ≠ b → o ≠ b + 1 → h' o j = h o j) → h' 2 4 = 0 → h' 2 6 = h 2 6 → cBook b h' s cn → R 0 c h') : zCl (d + 4) 109 [(2, b), (2, 2)] c h R X := by
  have hb' := hb
  unfold zIsB at hb'
  have zob : (zK (b + 1)).1 = 50 ∧ ((zK (b + 1)).2 : Int) = 3 := by
    rcases hb' with e | e <;> subst e
    · exact zo_91
    · exact zo_93
  refine b_109 hb (b_87 hb (s_9 zob (by decide) (fun h1 a1 a2 => ?_)))
  have loop : ∀ (m : Nat) (s : Int → Int) (cn : Int) (h2 : zH), cn + m = 4 → mCt s = cn → (∀ k : Int, 0 ≤ k → k < 3 → h2 (b + 1) k = s k) → h2 b 1 = cn → (∀ o j, ¬ cTs o j → o ≠ b → o ≠ b + 1 → h2 o j = h o j) → (0 ≤ h2 2 2 ∧ h2 2 2 ≤ n) → h2 2 4 = 0 → h2 2 6 = h 2 6 → mBk T n m (h2 2 2) s cn = mBk T n 4 (h 2 2) (fun _ => -1) 0 → zWp (d + 4) 109 6 [(2, b), (2, 2), (0, cn)] [] (zTS c h2) (zQ 0 R X) := by
    intro m
    induction m with
    | zero =>
      intro s cn h2 hm hc
      have := mCt_r s
      omega
    | succ m ih =>
      intro s cn h2 hm hc hs h1' fr ha2 h4' h6' he
      have cr := mCt_r s
      have ct2 : cTape h2 T n := ⟨by rw [fr _ _ (by unfold cTs; omega) (by omega) (by omega)]; exact ct.1, fun k a e => by rw [fr _ _ (by unfold cTs; omega) (by omega) (by omega)]; exact ct.2 k a e⟩
      rw [mBk] at he
      refine b_109_6 hb ⟨fun q => by omega, fun _ => s_65 wt ct2 ha2 h4' (fun q h3 f3 e3 => ⟨fun w => absurd w (by decide), fun _ => ?_⟩) (fun q h3 f3 e3 => ⟨fun _ => ?_, fun w => absurd rfl w⟩)⟩
      · rw [if_pos q] at he
        have hbe := nBE (T := T) ha2.2
        have e33 : mBl T n (h3 2 2) s = mBl T n (h2 2 2) s := by rw [e3, mBl_i ha2.2]
        refine s_110 (s := s) wt hb (cTape_fr (fun o j q => f3 o j (by have := cTs2 q; omega)) ct2) (by omega) (by rw [f3 _ _ (by omega)]; exact h4') (fun k a e => by rw [f3 _ _ (by omega)]; exact hs k a e) (by rw [f3 _ _ (by omega)]; omega) (fun K PL e h5 f5 g4 g6 => ?_) (fun k v a e hk hv hA h5 f5 g2 g4 g6 g7 g8 => ?_)
        · rw [e33] at e
          rw [e] at he
          have hk := mBl_K ha2.1 ha2.2 e
          have fin := kf K PL he.symm h5 (fun o j q1 q2 q3 => by rw [f5 o j q1, f3 o j (by have := cTs2 q1; omega), fr o j q1 q2 q3]) g4 g6
          rw [w32_e (by omega) (by omega)]
          refine b_109_6 hb ⟨fun _ => fin, fun _ => s_65u (by omega) ⟨fun _ => fin, fun q => absurd rfl q⟩⟩
        · rw [e33] at e
          have sk := mBl_s e
          rw [e] at he
          rw [w32_e (by omega) (by omega)]
          refine ih (fun j => if j = k then v else s j) (cn + 1) h5 (by omega) (by rw [mCt_u hk sk (by omega)]; omega) (fun j a1 a2 => ?_) ?_ (fun o j q1 q2 q3 => by rw [f5 o j q1 (by omega) (by omega), f3 o j (by have := cTs2 q1; omega), fr o j q1 q2 q3]) (by rw [g2]; exact hA) g4 (by rw [g6, f3 _ _ (by omega), h6']) (by rw [g2]; exact he)
          · by_cases ej : j = k
            · rw [if_pos ej, ej, g7]
            · rw [if_neg ej, f5 _ _ (by unfold cTs; omega) (by omega) (by omega), f3 _ _ (by omega), hs j a1 a2]
          · rw [g8, f3 _ _ (by omega), h1']
      · rw [if_neg q] at he
        refine ks s cn he.symm h3 (fun o j q1 q2 q3 => by rw [f3 o j (by have := cTs2 q1; omega), fr o j q1 q2 q3]) (by rw [f3 _ _ (by omega), h4']) (by rw [f3 _ _ (by omega), h6']) ⟨by rw [f3 _ _ (by omega), h1'], fun k a e => by rw [f3 _ _ (by omega), hs k a e]⟩
  refine loop 4 (fun _ => -1) 0 _ (by omega) rfl (fun k a e => by rw [hw_ne (by omega), a2 k a e]) (hw_eq ⟨rfl, rfl⟩) (fun o j _ q1 q2 => by rw [hw_ne (by omega), a1 o j q2]) ?_ ?_ ?_ ?_
  · rw [hw_ne (by omega), a1 _ _ (by omega)]
    exact ha
  · rw [hw_ne (by omega), a1 _ _ (by omega)]
    exact h4
  · rw [hw_ne (by omega), a1 _ _ (by omega)]
  · rw [hw_ne (by omega), a1 _ _ (by omega)]
