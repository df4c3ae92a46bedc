/-! the book's text: the reference -/
theorem s_218 {d c : Nat} {h : zH} {R : Int → Nat → zH → Prop} {X : Nat → Nat → zH → Prop} {o1 o2 n1 n2 : Int} {m : Nat} (ho1 : (zK o1).1 = 50 ∧ ((zK o1).2 : Int) = n1) (ho2 : (zK o2).1 = 50 ∧ ((zK o2).2 : Int) = n2) (hne : o1 ≠ o2) (hm : (m : Int) ≤ n1 ∧ (m : Int) ≤ n2 ∧ m ≤ 10000) (k : ∀ h', (∀ o j, o ≠ o2 → h' o j = h o j) → (∀ j : Int, 0 ≤ j → j < m → h' o2 j = h o1 j) → (∀ j : Int, (m : Int) ≤ j → h' o2 j = h o2 j) → R 0 c h') : zCl d 218 [(2, 113), (2, o1), (2, o2), (0, (m : Int))] c h R X := by
  refine b_218 ho1 ho2 ?_
  refine zDown (W := fun i => ∀ h', (∀ o j, o ≠ o2 → h' o j = h o j) → (∀ j : Int, 0 ≤ j → j < (i : Int) → h' o2 j = h o1 j) → (∀ j : Int, (i : Int) ≤ j → h' o2 j = h o2 j) → zWp d 218 3 [(2, 113), (2, o1), (2, o2), (0, (m : Int)), (0, (i : Int))] [] (zTS c h') (zQ 0 R X)) m ?_ ?_ 0 (Nat.zero_le _) h (fun _ _ _ => rfl) (fun j a b => by omega) (fun j a => rfl)
  · intro h' f1 f2 f3
    exact b_218_3 ho1 ho2 ⟨fun _ => k h' f1 f2 f3, fun q => by omega⟩
  · intro i hi ih h' f1 f2 f3
    refine b_218_3 ho1 ho2 ⟨fun q => by omega, fun _ => ⟨by omega, by omega, ?_⟩⟩
    rw [w32_s (by omega), f1 o1 _ hne]
    refine ih _ (fun o j q => by rw [hw_ne (by omega), f1 o j q]) (fun j a b => ?_) (fun j a => by rw [hw_ne (by omega), f3 j (by omega)])
    by_cases e : j = i
    · rw [hw_eq ⟨rfl, e⟩, e]
    · rw [hw_ne (by omega), f2 j a (by omega)]
theorem s_252_66 {d c : Nat} {T : Int → Int} {n : Int} (wt : wTape T n) {R : Int → Nat → zH → Prop} {X : Nat → Nat → zH → Prop} {h : zH} {x a0 : Int} (mt : mTape h T n) (kf : ∀ K PL, mBk T n 4 a0 (fun _ => -1) 0 = .inl (K, PL) → 0 ≤ PL → ∀ h' i2, (∀ o j, ¬ mTs o j → o ≠ 140 → h' o j = h o j) → h' 113 5 = PL → h' 113 6 = K → zWp (d + 2) 252 156 [(2, 113), (0, x), (0, i2), (9, 0), (9, 0), (9, 0)] [] (zTS c h') (zQ 1 R X)) (ks : ∀ s cn, mBk T n 4 a0 (fun _ => -1) 0 = .inr (s, cn) → ∀ h', (∀ o j, ¬ mTs o j → o ≠ 140 → h' o j = h o j) → h' 113 5 = -1 → (∀ k : Int, 0 ≤ k → k < 3 → h' 140 k = s k) → zWp (d + 2) 252 156 [(2, 113), (0, x), (0, cn), (9, 0), (9, 0), (9, 0)] [] (zTS c h') (zQ 1 R X)) :
    ∀ (m : Nat) (s : Int → Int) (cn : Int) (h2 : zH), cn + m = 4 → mCt s = cn → (∀ k : Int, 0 ≤ k → k < 3 → h2 140 k = s k) → (∀ o j, ¬ mTs o j → o ≠ 140 → h2 o j = h o j) → (0 ≤ h2 113 4 ∧ h2 113 4 ≤ n) → h2 113 5 = -1 → mBk T n m (h2 113 4) s cn = mBk T n 4 a0 (fun _ => -1) 0 → zWp (d + 2) 252 66 [(2, 113), (0, x), (0, cn), (9, 0), (9, 0), (9, 0)] [] (zTS c h2) (zQ 1 R X) := by
  intro m
  induction m with
  | zero =>
    intro s cn h2 hm hc
    have := mCt_r s
    omega
  | succ m ih =>
    intro s cn h2 hm hc hs fr ha2 h5 he
    have cr := mCt_r s
    have mt2 : mTape h2 T n := ⟨by rw [fr _ _ (by unfold mTs; omega) (by omega)]; exact mt.1, fun k a e => by rw [fr _ _ (by unfold mTs; omega) (by omega)]; exact mt.2 k a e⟩
    rw [mBk] at he
    have b0 := nBE (T := T) ha2.2
    refine b_252_66 (b_224 ⟨fun q => absurd h5 q, fun _ => ⟨fun q => absurd q (by decide), fun _ => s_225 wt mt2 ha2 (fun q h3 f3 e3 => ⟨fun w => absurd w (by decide), fun _ => ?_⟩) (fun q h3 f3 e3 => ⟨fun _ => ?_, fun w => absurd rfl w⟩)⟩⟩)
    · rw [if_pos q] at he
      have mt3 : mTape h3 T n := mTape_fr (fun o j q => f3 o j (by have := mTs2 q; omega)) mt2
      have fr3 : ∀ o j, ¬ mTs o j → o ≠ 140 → h3 o j = h o j := fun o j q1 q2 => by rw [f3 o j (by have := mTs2 q1; omega), fr o j q1 q2]
      have h35 : h3 113 5 = -1 := by rw [f3 _ _ (by omega), h5]
      have s3 : ∀ k : Int, 0 ≤ k → k < 3 → h3 140 k = s k := fun k a e => by rw [f3 _ _ (by omega), hs k a e]
      -- a fault on the line: the rest does nothing
      have bad : ∀ K PL y h4, mBl T n (h2 113 4) s = .inl (K, PL) → (∀ o j, ¬ mTs o j → h4 o j = h3 o j) → h4 113 5 = PL → h4 113 6 = K → zWp (d + 2) 252 117 [(2, 113), (0, x), (0, cn), (0, nB T n (h2 113 4)), (0, y), (9, 0)] [] (zTS c h4) (zQ 1 R X) := by
        intro K PL y h4 e f4 g5 g6
        have hk := mBl_K ha2.1 ha2.2 e
        rw [e] at he
        exact b_252_117 (s_236u (by omega) (s_239u (by omega) (b_224 ⟨fun _ => ⟨fun w => absurd rfl w, fun _ => kf K PL he.symm hk.2 h4 _ (fun o j q1 q2 => by rw [f4 o j q1, fr3 o j q1 q2]) g5 g6⟩, fun w => by omega⟩)))
      rw [e3]
      refine s_236 wt (by decide) (by decide) mt3 (by omega) h35 (fun K PL e h4 f4 g5 g6 g4 => ?_) (fun e h4 f4 g4 g5 => ?_)
      · rw [e3, nF_i ha2.2] at e
        have hk := nF_K ha2.1 ha2.2 e
        have em : mBl T n (h2 113 4) s = .inl (K, PL) := by
          unfold mBl
          rw [e]
        exact b_224 ⟨fun _ => ⟨fun _ => bad K PL _ h4 em f4 g5 g6, fun w => absurd rfl w⟩, fun w => by omega⟩
      · rw [e3, nF_i ha2.2] at e
        rw [e3, nE_i ha2.2] at g4
        rw [e3, nV_i ha2.2]
        have hv := (nF_v e).1
        have b2 := nBE (T := T) b0.2.2
        have mt4 : mTape h4 T n := mTape_fr f4 mt3
        have eb : h4 140 (nV T n (h2 113 4)) = s (nV T n (h2 113 4)) := by
          rw [f4 _ _ (by unfold mTs; omega)]
          exact s3 _ hv.1 (by omega)
        refine b_224 ⟨fun w => absurd g5 w, fun _ => ⟨fun w => absurd w (by decide), fun _ => ⟨by omega, fun w => ?_, fun w => ?_⟩⟩⟩
        · rw [eb] at w
          refine b_252_117 (s_236 wt (by decide) (by decide) mt4 (by omega) g5 (fun K PL e2 h5' f5 i5 i6 i4 => ?_) (fun e2 h5' f5 i4 i5 => ?_))
          · rw [g4] at e2
            have em : mBl T n (h2 113 4) s = .inl (K, PL) := by
              unfold mBl
              rw [e]
              simp only
              rw [if_pos w, e2]
            have hk := mBl_K ha2.1 ha2.2 em
            rw [em] at he
            exact s_239u (by omega) (b_224 ⟨fun _ => ⟨fun q => absurd rfl q, fun _ => kf K PL he.symm hk.2 h5' _ (fun o j q1 q2 => by rw [f5 o j q1, f4 o j q1, fr3 o j q1 q2]) i5 i6⟩, fun q => by omega⟩)
          · rw [g4] at e2 i4 ⊢
            have hv2 := (nF_v e2).1
            refine s_239 wt (by decide) (mTape_fr f5 mt4) (by omega) i5 (fun K PL e3' h6 f6 l5 l6 l4 => ?_) (fun e3' h6 f6 l4 l4' l5 => ?_)
            · rw [i4] at e3'
              have em : mBl T n (h2 113 4) s = .inl (K, PL) := by
                unfold mBl
                rw [e]
                simp only
                rw [if_pos w, e2]
                simp only
                rw [e3']
              have hk := mBl_K ha2.1 ha2.2 em
              rw [em] at he
              exact b_224 ⟨fun _ => ⟨fun q => absurd rfl q, fun _ => kf K PL he.symm hk.2 h6 _ (fun o j q1 q2 => by rw [f6 o j q1, f5 o j q1, f4 o j q1, fr3 o j q1 q2]) l5 l6⟩, fun q => by omega⟩
            · rw [i4] at e3' l4
              have em : mBl T n (h2 113 4) s = .inr (nV T n (h2 113 4), nV T n (nE T n (h2 113 4)), nB T n (nE T n (nE T n (h2 113 4))) + 1) := by
                unfold mBl
                rw [e]
                simp only
                rw [if_pos w, e2]
                simp only
                rw [e3']
              rw [em] at he
              refine b_224 ⟨fun q => absurd l5 q, fun _ => ⟨fun _ => ⟨by omega, ?_⟩, fun q => absurd q (by decide)⟩⟩
              rw [w32_e (by omega) (by omega)]
              refine ih (fun j => if j = nV T n (h2 113 4) then nV T n (nE T n (h2 113 4)) else s j) (cn + 1) _ (by omega) (by rw [mCt_u (by omega) w (by omega)]; omega) (fun j a1 a2 => ?_) (fun o j q1 q2 => by rw [hw_ne (by omega), f6 o j q1, f5 o j q1, f4 o j q1, fr3 o j q1 q2]) ?_ ?_ ?_
              · by_cases ej : j = nV T n (h2 113 4)
                · rw [if_pos ej, hw_eq ⟨rfl, ej⟩]
                · rw [if_neg ej, hw_ne (by omega), f6 _ _ (by unfold mTs; omega), f5 _ _ (by unfold mTs; omega), f4 _ _ (by unfold mTs; omega), s3 j a1 a2]
              · rw [hw_ne (by omega), l4]
                rw [l4] at l4'
                exact l4'
              · rw [hw_ne (by omega), l5]
              · rw [hw_ne (by omega), l4]
                exact he
        · rw [eb] at w
          have em : mBl T n (h2 113 4) s = .inl (2, nB T n (h2 113 4)) := by
            unfold mBl
            rw [e]
            simp only
            rw [if_neg w]
          refine s_232 g5 (bad 2 _ _ _ em (fun o j q => ?_) ?_ (hw_eq ⟨rfl, rfl⟩))
          · have := mTs2 q
            rw [hw_ne (by omega), hw_ne (by omega), f4 o j q]
          · rw [hw_ne (by omega), hw_eq ⟨rfl, rfl⟩]
    · rw [if_neg q] at he
      exact ks s cn he.symm h3 (fun o j q1 q2 => by rw [f3 o j (by have := mTs2 q1; omega), fr o j q1 q2]) (by rw [f3 _ _ (by omega), h5]) (fun k a e => by rw [f3 _ _ (by omega), hs k a e])
