/-! the plan's text: the reference's lines -/
theorem s_250_49 {d c : Nat} {T : Int → Int} {n : Int} (wt : wTape T n) {R : Int → Nat → zH → Prop} {X : Nat → Nat → zH → Prop} {h : zH} {x a0 nd np : Int} (hD : h 113 33 = nd) (hN : h 113 32 = np) (hnd : 0 ≤ nd ∧ nd ≤ 12) (hnp : 0 ≤ np ∧ np ≤ 4) (mt : mTape h T n) (kf : ∀ K PL, mPk T n nd np 13 a0 [] = .inl (K, PL) → 0 ≤ PL → ∀ h' i2 i3, (∀ o j, ¬ mTs o j → o ≠ 138 → h' o j = h o j) → h' 113 5 = PL → h' 113 6 = K → zWp (d + 3) 250 163 [(2, 113), (0, x), (0, i2), (0, i3), (9, 0), (9, 0), (9, 0)] [] (zTS c h') (zQ 1 R X)) (ks : ∀ P, mPk T n nd np 13 a0 [] = .inr P → wPl nd np P → ∀ h' i3, (∀ o j, ¬ mTs o j → o ≠ 138 → h' o j = h o j) → h' 113 5 = -1 → (∀ k : Int, 0 ≤ k → k < P.length → h' 138 (2 * k) = pD P k ∧ h' 138 (2 * k + 1) = pB P k) → zWp (d + 3) 250 163 [(2, 113), (0, x), (0, (P.length : Int)), (0, i3), (9, 0), (9, 0), (9, 0)] [] (zTS c h') (zQ 1 R X)) :
    ∀ (m : Nat) (P : List (Int × Int)) (h2 : zH), P.length + m = 13 → wPl nd np P → (∀ k : Int, 0 ≤ k → k < P.length → h2 138 (2 * k) = pD P k ∧ h2 138 (2 * k + 1) = pB P k) → (∀ o j, ¬ mTs o j → o ≠ 138 → h2 o j = h o j) → (0 ≤ h2 113 4 ∧ h2 113 4 ≤ n) → h2 113 5 = -1 → mPk T n nd np m (h2 113 4) P = mPk T n nd np 13 a0 [] → zWp (d + 3) 250 49 [(2, 113), (0, x), (0, (P.length : Int)), (0, gnP P P.length), (9, 0), (9, 0), (9, 0)] [] (zTS c h2) (zQ 1 R X) := by
  intro m
  induction m with
  | zero =>
    intro P h2 hm w
    have := wPl_12 hnd.2 w
    omega
  | succ m ih =>
    intro P h2 hm w hs fr ha2 h5 he
    have l12 := wPl_12 hnd.2 w
    have mt2 : mTape h2 T n := ⟨by rw [fr _ _ (by unfold mTs; omega) (by omega)]; exact mt.1, fun k a e => by rw [fr _ _ (by unfold mTs; omega) (by omega)]; exact mt.2 k a e⟩
    rw [mPk] at he
    have b0 := nBE (T := T) ha2.2
    refine b_250_49 (b_224 ⟨fun q => absurd h5 q, fun _ => ⟨fun q => absurd q (by decide), fun _ => s_225 wt mt2 ha2 (fun q h3 f3 e3 => ⟨fun v => absurd v (by decide), fun _ => ?_⟩) (fun q h3 f3 e3 => ⟨fun _ => ?_, fun v => absurd rfl v⟩)⟩⟩)
    · rw [if_pos q] at he
      have mt3 : mTape h3 T n := mTape_fr (fun o j q => f3 o j (by have := mTs2 q; omega)) mt2
      have fr3 : ∀ o j, ¬ mTs o j → o ≠ 138 → h3 o j = h o j := fun o j q1 q2 => by rw [f3 o j (by have := mTs2 q1; omega), fr o j q1 q2]
      have h35 : h3 113 5 = -1 := by rw [f3 _ _ (by omega), h5]
      have s3 : ∀ k : Int, 0 ≤ k → k < P.length → h3 138 (2 * k) = pD P k ∧ h3 138 (2 * k + 1) = pB P k := fun k a e => by rw [f3 _ _ (by omega), f3 _ _ (by omega)]; exact hs k a e
      have e33 : h3 113 33 = nd := by rw [fr3 _ _ (by unfold mTs; omega) (by omega), hD]
      have bad : ∀ K PL y h4, mPl T n nd np (h2 113 4) P = .inl (K, PL) → (∀ o j, ¬ mTs o j → h4 o j = h3 o j) → h4 113 5 = PL → h4 113 6 = K → zWp (d + 3) 250 106 [(2, 113), (0, x), (0, (P.length : Int)), (0, gnP P P.length), (0, nB T n (h2 113 4)), (0, y), (9, 0)] [] (zTS c h4) (zQ 1 R X) := by
        intro K PL y h4 e f4 g5 g6
        have hk := mPl_K hnp ha2.1 ha2.2 e
        rw [e] at he
        exact b_250_106 (s_251u (by omega) (s_239u (by omega) (b_224 ⟨fun _ => ⟨fun v => absurd rfl v, fun _ => kf K PL he.symm hk.2 h4 _ _ (fun o j q1 q2 => by rw [f4 o j q1, fr3 o j q1 q2]) g5 g6⟩, fun v => by omega⟩)))
      rw [e3, e33, w32_e (by omega) (by omega)]
      refine s_236 wt (by decide) (by omega) mt3 (by omega) h35 (fun K PL e h4 f4 g5 g6 g4 => ?_) (fun e h4 f4 g4 g5 => ?_)
      · rw [e3, nF_i ha2.2] at e
        have hk := nF_K ha2.1 ha2.2 e
        have em : mPl T n nd np (h2 113 4) P = .inl (K, PL) := by
          unfold mPl
          rw [e]
        exact b_224 ⟨fun _ => ⟨fun _ => bad K PL _ h4 em f4 g5 g6, fun v => absurd rfl v⟩, fun v => by omega⟩
      · rw [e3, nF_i ha2.2] at e
        rw [e3, nE_i ha2.2] at g4
        rw [e3, nV_i ha2.2]
        have hv := (nF_v e).1
        have b2 := nBE (T := T) b0.2.2
        have mt4 : mTape h4 T n := mTape_fr f4 mt3
        have fr4 : ∀ o j, ¬ mTs o j → o ≠ 138 → h4 o j = h o j := fun o j q1 q2 => by rw [f4 o j q1, fr3 o j q1 q2]
        have gk := gnP_ok hnd.2 w P.length (Nat.le_refl _)
        have gbit := gk.2.2 (nV T n (h2 113 4)) hv.1 (by omega)
        refine b_224 ⟨fun v => absurd g5 v, fun _ => ⟨fun v => absurd v (by decide), fun _ => ⟨fun u => ?_, fun u => ?_⟩⟩⟩
        · have q2 : mLi P (nV T n (h2 113 4)) P.length = -1 := mLi_no.mpr (fun j j1 j2 v => u (gbit.mpr ⟨j, j1, j2, v⟩))
          refine b_250_106 (s_251 (np := np) wt (by rw [fr4 _ _ (by unfold mTs; omega) (by omega), hN]) hnp mt4 (by omega) g5 (fun K PL e2 h5' q5 => ?_) (fun xx y e2 h5' f5 i4 i5 => ?_))
          · rw [g4] at e2
            have em : mPl T n nd np (h2 113 4) P = .inl (K, PL) := by
              unfold mPl
              rw [e]
              simp only
              rw [if_pos q2, e2]
            have hk := mPl_K hnp ha2.1 ha2.2 em
            rw [em] at he
            exact s_239u (by rw [q5.2.1]; omega) (b_224 ⟨fun _ => ⟨fun v => absurd rfl v, fun _ => kf K PL he.symm hk.2 h5' _ _ (fun o j q1 q2 => by rw [q5.1 o j q1, fr4 o j q1 q2]) q5.2.1 q5.2.2⟩, fun v => by rw [q5.2.1] at v; omega⟩)
          · rw [g4] at e2
            have r := mPp_r hnp (by omega) b0.2.2 e2
            refine s_239 wt (by decide) (mTape_fr f5 mt4) (by omega) i5 (fun K PL e3' h6 f6 l5 l6 l4 => ?_) (fun e3' h6 f6 l4 l4' l5 => ?_)
            · rw [i4] at e3'
              have em : mPl T n nd np (h2 113 4) P = .inl (K, PL) := by
                unfold mPl
                rw [e]
                simp only
                rw [if_pos q2, e2]
                simp only
                rw [e3']
              have hk := mPl_K hnp ha2.1 ha2.2 em
              rw [em] at he
              exact b_224 ⟨fun _ => ⟨fun v => absurd rfl v, fun _ => kf K PL he.symm hk.2 h6 _ _ (fun o j q1 q2 => by rw [f6 o j q1, f5 o j q1, fr4 o j q1 q2]) l5 l6⟩, fun v => by omega⟩
            · rw [i4] at e3' l4
              have em : mPl T n nd np (h2 113 4) P = .inr (nV T n (h2 113 4), xx, nB T n y + 1) := by
                unfold mPl
                rw [e]
                simp only
                rw [if_pos q2, e2]
                simp only
                rw [e3']
              have mr := mPl_r hnp ha2.1 ha2.2 em
              have w2 := wPl_app w mr.1 mr.2.1 mr.2.2.2
              have l12' := wPl_12 hnd.2 w2
              rw [len_app] at l12'
              rw [em] at he
              have e2w : w32 (2 * (P.length : Int)) = 2 * P.length := w32_e (by omega) (by omega)
              refine b_224 ⟨fun v => absurd l5 v, fun _ => ⟨fun _ => ?_, fun v => absurd v (by decide)⟩⟩
              rw [e2w, w32_e (x := 2 * (P.length : Int) + 1) (by omega) (by omega)]
              refine ⟨by omega, by omega, ?_⟩
              have pa := fun (k : Int) (h0 : 0 ≤ k) (h1 : k ≤ P.length) => pD_app (P := P) (x := (nV T n (h2 113 4), xx)) (k := k) h0 h1
              have := ih (P ++ [(nV T n (h2 113 4), xx)]) (hw (hw h6 138 (2 * P.length) (nV T n (h2 113 4))) 138 (2 * P.length + 1) xx) (by rw [len_app]; omega) w2 (fun j a1 a2 => ?_) (fun o j q1 q2 => by rw [hw_ne (by omega), hw_ne (by omega), f6 o j q1, f5 o j q1, fr4 o j q1 q2]) ?_ ?_ ?_
              · rw [len_app, gnP, gnP_app P.length (Nat.le_refl _), (pa P.length (by omega) (by omega)).1, if_neg (by omega)] at this
                rw [w32_s (by omega)]
                exact this
              · rw [len_app] at a2
                have pj := pa j a1 (by omega)
                rw [pj.1, pj.2]
                by_cases ej : j < P.length
                · have hj := s3 j a1 ej
                  rw [if_pos ej, if_pos ej, hw_ne (by omega), hw_ne (by omega), hw_ne (by omega), hw_ne (by omega), f6 _ _ (by unfold mTs; omega), f6 _ _ (by unfold mTs; omega), f5 _ _ (by unfold mTs; omega), f5 _ _ (by unfold mTs; omega), f4 _ _ (by unfold mTs; omega), f4 _ _ (by unfold mTs; omega)]
                  exact hj
                · have ej' : j = P.length := by omega
                  rw [if_neg ej, if_neg ej, hw_ne (by omega), hw_eq ⟨rfl, by omega⟩, hw_eq ⟨rfl, by omega⟩]
                  exact ⟨rfl, rfl⟩
              · rw [hw_ne (by omega), hw_ne (by omega), l4]
                exact mr.2.2.1
              · rw [hw_ne (by omega), hw_ne (by omega), l5]
              · rw [hw_ne (by omega), hw_ne (by omega), l4]
                exact he
        · have q2 : ¬ mLi P (nV T n (h2 113 4)) P.length = -1 := by
            intro v
            obtain ⟨j, j1, j2, j3⟩ := gbit.mp u
            exact mLi_no.mp v j j1 j2 j3
          have em : mPl T n nd np (h2 113 4) P = .inl (2, nB T n (h2 113 4)) := by
            unfold mPl
            rw [e]
            simp only
            rw [if_neg q2]
          refine s_232 g5 (bad 2 _ _ _ em (fun o j v => ?_) ?_ (hw_eq ⟨rfl, rfl⟩))
          · have := mTs2 v
            rw [hw_ne (by omega), hw_ne (by omega), f4 o j v]
          · rw [hw_ne (by omega), hw_eq ⟨rfl, rfl⟩]
    · rw [if_neg q] at he
      exact ks P he.symm w h3 _ (fun o j q1 q2 => by rw [f3 o j (by have := mTs2 q1; omega), fr o j q1 q2]) (by rw [f3 _ _ (by omega), h5]) (fun k a e => by rw [f3 _ _ (by omega), f3 _ _ (by omega)]; exact hs k a e)
