/-! the plan's text: all lines; the reference -/
theorem mPl_i {T : Int → Int} {n nd np a : Int} {P : List (Int × Int)} (h : a ≤ n) : mPl T n nd np (nB T n a) P = mPl T n nd np a P := by
  unfold mPl
  rw [nF_i h, nV_i h, nE_i h, nB_i h]
theorem s_104 {d c : Nat} {T : Int → Int} {n : Int} (wt : wTape T n) {R : Int → Nat → zH → Prop} {X : Nat → Nat → zH → Prop} {h : zH} {p t nd np : Int} (hp : zIsP p) (ht : zIsR t) (hD : h (t + 1) 1 = nd) (hN : h (t + 1) 0 = np) (hnd : 0 ≤ nd ∧ nd ≤ 12) (hnp : 0 ≤ np ∧ np ≤ 4) (ct : cTape h T n) (ha : 0 ≤ h 2 2 ∧ h 2 2 ≤ n) (h4 : h 2 4 = 0) (kf : ∀ K PL, mPk T n nd np 13 (h 2 2) [] = .inl (K, PL) → ∀ h', (∀ o j, ¬ cTs o j → ¬ (p ≤ o ∧ o ≤ p + 5) → h' o j = h o j) → h' 2 4 = K → h' 2 6 = PL → R 0 c h') (ks : ∀ P, mPk T n nd np 13 (h 2 2) [] = .inr P → wPl nd np P → ∀ h', (∀ o j, ¬ cTs o j → ¬ (p ≤ o ∧ o ≤ p + 5) → h' o j = h o j) → h' 2 4 = 0 → h' 2 6 = h 2 6 → h' p 6 = 0 → cPlan p h' P → R 0 c h') : zCl (d + 4) 104 [(2, p), (2, 2), (2, t)] c h R X := by
  have hp' := hp
  have ht' := ht
  unfold zIsP at hp'
  unfold zIsR at ht'
  refine b_104 hp ht ?_
  have loop : ∀ (m : Nat) (P : List (Int × Int)) (h2 : zH), P.length + m = 13 → wPl nd np P → cPlan p h2 P → (∀ o j, ¬ cTs o j → ¬ (p ≤ o ∧ o ≤ p + 5) → h2 o j = h o j) → (0 ≤ h2 2 2 ∧ h2 2 2 ≤ n) → h2 2 4 = 0 → h2 2 6 = h 2 6 → h2 p 6 = 0 → mPk T n nd np m (h2 2 2) P = mPk T n nd np 13 (h 2 2) [] → zWp (d + 4) 104 6 [(2, p), (2, 2), (2, t), (0, (P.length : Int))] [] (zTS c h2) (zQ 0 R X) := by
    intro m
    induction m with
    | zero =>
      intro P h2 hm w
      have := wPl_12 hnd.2 w
      omega
    | succ m ih =>
      intro P h2 hm w cp fr ha2 g4 g6 gp he
      have l12 := wPl_12 hnd.2 w
      have ct2 : cTape h2 T n := ⟨by rw [fr _ _ (by unfold cTs; omega) (by omega)]; exact ct.1, fun k a e => by rw [fr _ _ (by unfold cTs; omega) (by omega)]; exact ct.2 k a e⟩
      rw [mPk] at he
      refine b_104_6 hp ht ⟨fun q => by omega, fun _ => s_65 wt ct2 ha2 g4 (fun q h3 f3 e3 => ⟨fun v => absurd v (by decide), fun _ => ?_⟩) (fun q h3 f3 e3 => ⟨fun _ => ?_, fun v => absurd rfl v⟩)⟩
      · rw [if_pos q] at he
        have hbe := nBE (T := T) ha2.2
        have e33 : mPl T n nd np (h3 2 2) P = mPl T n nd np (h2 2 2) P := by rw [e3, mPl_i ha2.2]
        refine s_105 (nd := nd) (np := np) wt hp ht (by rw [f3 _ _ (by omega), fr _ _ (by unfold cTs; omega) (by omega), hD]) (by rw [f3 _ _ (by omega), fr _ _ (by unfold cTs; omega) (by omega), hN]) hnd hnp (cPlan_fr (fun o j a b => f3 o j (by omega)) cp) w (cTape_fr (fun o j q => f3 o j (by have := cTs2 q; omega)) ct2) (by omega) (by rw [f3 _ _ (by omega)]; exact g4) (fun K PL e h5 f5 i4 i6 => ?_) (fun k v a e h5 f5 i2 i4 i6 ip cp5 => ?_)
        · rw [e33] at e
          rw [e] at he
          have hk := mPl_K hnp ha2.1 ha2.2 e
          have fin := kf K PL he.symm h5 (fun o j q1 q2 => by rw [f5 o j q1, f3 o j (by have := cTs2 q1; omega), fr o j q1 q2]) i4 i6
          exact b_104_6 hp ht ⟨fun _ => fin, fun _ => s_65u (by omega) ⟨fun _ => fin, fun v => absurd rfl v⟩⟩
        · rw [e33] at e
          have mr := mPl_r hnp ha2.1 ha2.2 e
          rw [e] at he
          have := ih (P ++ [(k, v)]) h5 (by rw [len_app]; omega) (wPl_app w mr.1 mr.2.1 mr.2.2.2) cp5 (fun o j q1 q2 => by rw [f5 o j q1 q2, f3 o j (by have := cTs2 q1; omega), fr o j q1 q2]) (by rw [i2]; exact mr.2.2.1) i4 (by rw [i6, f3 _ _ (by omega), g6]) (by rw [ip, f3 _ _ (by omega), gp]) (by rw [i2]; exact he)
          rw [len_app] at this
          rw [w32_s (by omega)]
          exact this
      · rw [if_neg q] at he
        exact ks P he.symm w h3 (fun o j q1 q2 => by rw [f3 o j (by have := cTs2 q1; omega), fr o j q1 q2]) (by rw [f3 _ _ (by omega), g4]) (by rw [f3 _ _ (by omega), g6]) (by rw [f3 _ _ (by omega), gp]) (cPlan_fr (fun o j a b => f3 o j (by omega)) cp)
  refine loop 13 [] _ rfl ⟨fun k a b => by simp at b; omega, fun i j a b c => by simp at c; omega⟩ ⟨?_, fun k a b => by simp at b; omega⟩ (fun o j q1 q2 => by rw [hw_ne (by omega), hw_ne (by omega)]) ?_ ?_ ?_ (hw_eq ⟨rfl, rfl⟩) ?_
  · rw [hw_ne (by omega), hw_eq ⟨rfl, rfl⟩]
    rfl
  · rw [hw_ne (by omega), hw_ne (by omega)]
    exact ha
  · rw [hw_ne (by omega), hw_ne (by omega)]
    exact h4
  · rw [hw_ne (by omega), hw_ne (by omega)]
  · rw [hw_ne (by omega), hw_ne (by omega)]
/-- a fault stands in the reference -/
def mBad (h h' : zH) (n K PL : Int) : Prop := (∀ o j, ¬ mTs o j → h' o j = h o j) ∧ h' 113 5 = PL ∧ h' 113 6 = K
theorem s_251u {d c : Nat} {R : Int → Nat → zH → Prop} {X : Nat → Nat → zH → Prop} {h : zH} (h5 : h 113 5 ≠ -1) (k : R 0 c h) : zCl (d + 2) 251 [(2, 113)] c h R X :=
  b_251 (s_236u h5 (b_224 ⟨fun _ => ⟨fun _ => b_224 ⟨fun _ => ⟨fun _ => k, fun v => absurd rfl v⟩, fun v => absurd v h5⟩, fun v => absurd rfl v⟩, fun v => absurd v h5⟩))
theorem s_251 {d c : Nat} {T : Int → Int} {n : Int} (wt : wTape T n) {R : Int → Nat → zH → Prop} {X : Nat → Nat → zH → Prop} {h : zH} {np : Int} (hN : h 113 32 = np) (hnp : 0 ≤ np ∧ np ≤ 4) (mt : mTape h T n) (ha : 0 ≤ h 113 4 ∧ h 113 4 ≤ n) (h5 : h 113 5 = -1) (kf : ∀ K PL, mPp T n np (h 113 4) = .inl (K, PL) → ∀ h', mBad h h' n K PL → R 0 c h') (ks : ∀ x y, mPp T n np (h 113 4) = .inr (x, y) → ∀ h', (∀ o j, ¬ mTs o j → h' o j = h o j) → h' 113 4 = y → h' 113 5 = -1 → R x c h') : zCl (d + 2) 251 [(2, 113)] c h R X := by
  have b1 := nBE (T := T) ha.2
  have b2 := nBE (T := T) b1.2.2
  have out : ∀ K PL h1, mPp T n np (h 113 4) = .inl (K, PL) → mBad h h1 n K PL → ∀ z, zCl (d + 1) 224 [(2, 113)] c h1 (fun y c h => (y = 0 → R 0 c h) ∧ (y ≠ 0 → R z c h)) X := by
    intro K PL h1 e q z
    have hk := mPp_K ha.1 ha.2 e
    exact b_224 ⟨fun _ => ⟨fun _ => kf K PL e h1 q, fun v => absurd rfl v⟩, fun v => by rw [q.2.1] at v; omega⟩
  refine b_251 ?_
  rw [hN, w32_e (by omega) (by omega)]
  refine s_236 wt (by decide) (by omega) mt ha h5 (fun K PL e h1 f1 g5 g6 g4 => ?_) (fun e h1 f1 g4 g5 => ?_)
  · have em : mPp T n np (h 113 4) = .inl (K, PL) := by
      unfold mPp
      rw [e]
    have hk := mPp_K ha.1 ha.2 em
    exact b_224 ⟨fun _ => ⟨fun _ => out K PL h1 em ⟨f1, g5, g6⟩ _, fun v => absurd rfl v⟩, fun v => by omega⟩
  · have v1 := (nF_v e).1
    have mt1 : mTape h1 T n := mTape_fr f1 mt
    refine b_224 ⟨fun v => absurd g5 v, fun _ => ⟨fun v => absurd v (by decide), fun _ => s_226 wt mt1 (by omega) (fun h2 f2 e4 => ?_)⟩⟩
    have eB : run isB T n (h1 113 4) = nB T n (nE T n (h 113 4)) := by rw [g4]; rfl
    rw [eB] at e4 ⊢
    have fr2 : ∀ o j, ¬ mTs o j → h2 o j = h o j := fun o j v => by rw [f2 o j (by have := mTs2 v; omega), f1 o j v]
    have g25 : h2 113 5 = -1 := by rw [f2 _ _ (by omega), g5]
    have one : ¬ (nB T n (nE T n (h 113 4)) < n ∧ isD (T (nB T n (nE T n (h 113 4)))) = true) → zCl (d + 1) 224 [(2, 113)] c h2 (fun y c h_1 => (y = 0 → R 0 c h_1) ∧ (y ≠ 0 → R (zShl 1 (nV T n (h 113 4))) c h_1)) X := by
      intro z
      refine b_224 ⟨fun v => absurd g25 v, fun _ => ⟨fun v => absurd v (by decide), fun _ => ks _ (nB T n (nE T n (h 113 4))) ?_ h2 fr2 e4 g25⟩⟩
      unfold mPp
      rw [e]
      simp only
      rw [if_neg z]
    have two : (nB T n (nE T n (h 113 4)) < n ∧ isD (T (nB T n (nE T n (h 113 4)))) = true) → zCl (d + 1) 236 [(2, 113), (0, 0), (0, w32 (h2 113 32 - 1))] c h2 (fun y9075 c9076 h9077 => zCl (d + 1) 224 [(2, 113)] c9076 h9077 (fun y9078 c9079 h9080 => (y9078 = 0 → zCl (d + 1) 224 [(2, 113)] c9079 h9080 (fun y9081 c9082 h9083 => (y9081 = 0 → R 0 c9082 h9083) ∧ (y9081 ≠ 0 → R (zOr (zShl 1 (nV T n (h 113 4))) (zShl 1 y9075)) c9082 h9083)) X) ∧ (y9078 ≠ 0 → (y9075 ≠ nV T n (h 113 4) → zCl (d + 1) 224 [(2, 113)] c9079 h9080 (fun y9087 c9088 h9089 => (y9087 = 0 → R 0 c9088 h9089) ∧ (y9087 ≠ 0 → R (zOr (zShl 1 (nV T n (h 113 4))) (zShl 1 y9075)) c9088 h9089)) X) ∧ (y9075 = nV T n (h 113 4) → zCl (d + 1) 232 [(2, 113), (0, 2), (0, h2 113 4)] c9079 h9080 (fun y9093 c9094 h9095 => zCl (d + 1) 224 [(2, 113)] c9094 h9095 (fun y9096 c9097 h9098 => (y9096 = 0 → R 0 c9097 h9098) ∧ (y9096 ≠ 0 → R (zOr (zShl 1 (nV T n (h 113 4))) (zShl 1 y9075)) c9097 h9098)) X) X))) X) X := by
      intro z
      rw [fr2 113 32 (by unfold mTs; omega), hN, w32_e (by omega) (by omega)]
      refine s_236 wt (by decide) (by omega) (mTape_fr fr2 mt) (by omega) g25 (fun K PL e3 h3 f3 i5 i6 i4 => ?_) (fun e3 h3 f3 i4 i5 => ?_)
      · rw [e4, nF_i b1.2.2] at e3
        have em : mPp T n np (h 113 4) = .inl (K, PL) := by
          unfold mPp
          rw [e]
          simp only
          rw [if_pos z, e3]
        have hk := mPp_K ha.1 ha.2 em
        exact b_224 ⟨fun _ => ⟨fun _ => out K PL h3 em ⟨fun o j v => by rw [f3 o j v, fr2 o j v], i5, i6⟩ _, fun v => absurd rfl v⟩, fun v => by omega⟩
      · rw [e4, nF_i b1.2.2] at e3
        rw [e4, nE_i b1.2.2] at i4
        rw [e4, nV_i b1.2.2]
        refine b_224 ⟨fun v => absurd i5 v, fun _ => ⟨fun v => absurd v (by decide), fun _ => ⟨fun u => b_224 ⟨fun v => absurd i5 v, fun _ => ⟨fun v => absurd v (by decide), fun _ => ks _ _ ?_ h3 (fun o j v => by rw [f3 o j v, fr2 o j v]) i4 i5⟩⟩, fun u => ?_⟩⟩⟩
        · unfold mPp
          rw [e]
          simp only
          rw [if_pos z, e3]
          simp only
          rw [if_neg u]
        · have em : mPp T n np (h 113 4) = .inl (2, nB T n (nE T n (h 113 4))) := by
            unfold mPp
            rw [e]
            simp only
            rw [if_pos z, e3]
            simp only
            rw [if_pos u]
          refine s_232 i5 (out 2 _ _ em ⟨fun o j v => ?_, ?_, hw_eq ⟨rfl, rfl⟩⟩ _)
          · have := mTs2 v
            rw [hw_ne (by omega), hw_ne (by omega), f3 o j v, fr2 o j v]
          · rw [hw_ne (by omega), hw_eq ⟨rfl, rfl⟩]
    by_cases q : nB T n (nE T n (h 113 4)) < n
    · rw [if_pos q]
      exact b_237 ⟨fun w => ⟨fun v => absurd rfl v, fun _ => one (fun v => by have := isD_t.mp v.2; omega)⟩, fun w => ⟨fun w2 => ⟨fun v => absurd rfl v, fun _ => one (fun v => by have := isD_t.mp v.2; omega)⟩, fun w2 => ⟨fun _ => two ⟨q, isD_t.mpr ⟨w, w2⟩⟩, fun v => absurd v (by decide)⟩⟩⟩
    · rw [if_neg q]
      exact b_237 ⟨fun w => ⟨fun v => absurd rfl v, fun _ => one (fun v => q v.1)⟩, fun w => by omega⟩
