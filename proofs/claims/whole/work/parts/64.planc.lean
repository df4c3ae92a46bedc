/-! the plan's text: the class -/
/-- a fault stands: nothing that is read counts -/
def cBad (h h' : zH) (n K PL : Int) : Prop := (∀ o j, ¬ cTs o j → h' o j = h o j) ∧ h' 2 4 = K ∧ h' 2 6 = PL ∧ (0 ≤ h' 2 2 ∧ h' 2 2 ≤ n)
theorem s_106u {d c : Nat} {T : Int → Int} {n : Int} (wt : wTape T n) {R : Int → Nat → zH → Prop} {X : Nat → Nat → zH → Prop} {h : zH} {t x : Int} (ht : zIsR t) (ct : cTape h T n) (ha : 0 ≤ h 2 2 ∧ h 2 2 ≤ n) (h4 : h 2 4 ≠ 0) (k : ∀ y h', cBad h h' n (h 2 4) (h 2 6) → R y c h') : zCl (d + 2) 106 [(2, 2), (2, t), (0, x)] c h R X := by
  refine b_106 ht (s_74u wt ct ha h4 (fun y h1 f1 g4 g6 g2 _ => ⟨fun _ => k _ h1 ⟨f1, g4, g6, g2⟩, fun _ => b_71 (s_72 (fun _ => k _ h1 ⟨f1, g4, g6, g2⟩) (fun w => by omega))⟩))
theorem s_106 {d c : Nat} {T : Int → Int} {n : Int} (wt : wTape T n) {R : Int → Nat → zH → Prop} {X : Nat → Nat → zH → Prop} {h : zH} {t x np : Int} (ht : zIsR t) (hn : h (t + 1) 0 = np) (hnp : 0 ≤ np ∧ np ≤ 4) (ct : cTape h T n) (ha : 0 ≤ h 2 2 ∧ h 2 2 ≤ n) (h4 : h 2 4 = 0) (kf : ∀ K PL, nF T n (h 2 2) 0 (np - 1) = some (K, PL) → ∀ y h', cBad h h' n K PL → R y c h') (kd : nF T n (h 2 2) 0 (np - 1) = none → zb x (nV T n (h 2 2)) = 1 → ∀ y h', cBad h h' n 2 (nB T n (h 2 2)) → R y c h') (ks : nF T n (h 2 2) 0 (np - 1) = none → zb x (nV T n (h 2 2)) ≠ 1 → ∀ h', (∀ o j, ¬ cTs o j → h' o j = h o j) → h' 2 2 = nE T n (h 2 2) → h' 2 4 = 0 → h' 2 6 = h 2 6 → R (zShl 1 (nV T n (h 2 2))) c h') : zCl (d + 2) 106 [(2, 2), (2, t), (0, x)] c h R X := by
  have b1 := nBE (T := T) ha.2
  refine b_106 ht ?_
  rw [hn, w32_e (by omega) (by omega)]
  refine s_74 wt ct ha h4 (fun K PL e y h1 f1 g4 g6 g2 _ => ?_) (fun e h1 f1 g2 g3 g4 g6 => ?_)
  · have hk := nF_K ha.1 ha.2 e
    exact ⟨fun _ => kf K PL e _ h1 ⟨f1, g4, g6, g2⟩, fun _ => b_71 (s_72 (fun _ => kf K PL e _ h1 ⟨f1, g4, g6, g2⟩) (fun w => by omega))⟩
  · refine ⟨fun w => ks e w h1 f1 g2 g4 g6, fun w => b_71 (s_72 (fun q => absurd g4 q) (fun _ => kd e w _ _ ⟨fun o j q => ?_, ?_, ?_, ?_⟩))⟩
    · have := cTs2 q
      rw [hw_ne (by omega), hw_ne (by omega), f1 o j q]
    · rw [hw_ne (by omega), hw_eq ⟨rfl, rfl⟩]
    · rw [hw_eq ⟨rfl, rfl⟩, g3]
    · rw [hw_ne (by omega), hw_ne (by omega), g2]
      omega
theorem s_95 {d c : Nat} {T : Int → Int} {n : Int} (wt : wTape T n) {R : Int → Nat → zH → Prop} {X : Nat → Nat → zH → Prop} {h : zH} (ct : cTape h T n) (ha : 0 ≤ h 2 2 ∧ h 2 2 ≤ n) (k1 : nB T n (h 2 2) < n ∧ isD (T (nB T n (h 2 2))) = true → ∀ h', (∀ o j, ¬ (o = 2 ∧ j = 2) → h' o j = h o j) → h' 2 2 = nB T n (h 2 2) → R 1 c h') (k0 : ¬ (nB T n (h 2 2) < n ∧ isD (T (nB T n (h 2 2))) = true) → ∀ h', (∀ o j, ¬ (o = 2 ∧ j = 2) → h' o j = h o j) → h' 2 2 = nB T n (h 2 2) → R 0 c h') : zCl (d + 1) 95 [(2, 2)] c h R X := by
  refine b_95 (s_66 wt ct ha (fun h1 f1 e2 => ?_))
  have eB : run isB T n (h 2 2) = nB T n (h 2 2) := rfl
  rw [eB] at e2 ⊢
  by_cases q : nB T n (h 2 2) < n
  · rw [if_pos q]
    exact b_75 ⟨fun w => ⟨Or.inl rfl, k0 (fun v => by have := isD_t.mp v.2; omega) h1 f1 e2⟩, fun w => ⟨fun w2 => ⟨Or.inl rfl, k0 (fun v => by have := isD_t.mp v.2; omega) h1 f1 e2⟩, fun w2 => ⟨Or.inr rfl, k1 ⟨q, isD_t.mpr ⟨w, w2⟩⟩ h1 f1 e2⟩⟩⟩
  · rw [if_neg q]
    exact b_75 ⟨fun w => ⟨Or.inl rfl, k0 (fun v => q v.1) h1 f1 e2⟩, fun w => by omega⟩
theorem zb_sh {p o : Int} (hp : 0 ≤ p ∧ p ≤ 30) (ho : 0 ≤ o ∧ o ≤ 30) : zb (zShl 1 p) o = if o = p then 1 else 0 := by
  have z : zOr 0 (zShl 1 p) = zShl 1 p := by
    rw [zShl_p hp.1 (by omega)]
    have h0 : (0 : Int) ≤ 2 ^ p.toNat := Int.pow_nonneg (by decide)
    have h1 : (2 : Nat) ^ p.toNat ≤ 2 ^ 30 := Nat.pow_le_pow_right (by decide) (by omega)
    have h2 : (2 : Nat) ^ 30 = 1073741824 := by decide
    have h3 : ((2 ^ p.toNat : Nat) : Int) ≤ 1073741824 := by omega
    rw [Int.natCast_pow] at h3
    have h4 : (2 : Int) ^ p.toNat ≤ 1073741824 := h3
    rw [zOr_I (by decide) (by decide) h0 (by omega)]
    simp
    omega
  have := zb_or (x := 0) (d := p) (e := o) (by decide) (by decide) hp.1 (by omega) ho.1 (by omega)
  rw [z] at this
  rw [this]
  split
  · rfl
  · exact zb_hi (n := 0) (by decide) (by decide) (by decide) (by omega) (by omega)
theorem s_105 {d c : Nat} {T : Int → Int} {n : Int} (wt : wTape T n) {R : Int → Nat → zH → Prop} {X : Nat → Nat → zH → Prop} {h : zH} {p t nd np : Int} {P : List (Int × Int)} (hp : zIsP p) (ht : zIsR t) (hD : h (t + 1) 1 = nd) (hN : h (t + 1) 0 = np) (hnd : 0 ≤ nd ∧ nd ≤ 12) (hnp : 0 ≤ np ∧ np ≤ 4) (cp : cPlan p h P) (w : wPl nd np P) (ct : cTape h T n) (ha : 0 ≤ h 2 2 ∧ h 2 2 ≤ n) (h4 : h 2 4 = 0) (kf : ∀ K PL, mPl T n nd np (h 2 2) P = .inl (K, PL) → ∀ h', (∀ o j, ¬ cTs o j → h' o j = h o j) → h' 2 4 = K → h' 2 6 = PL → R 0 c h') (ks : ∀ k v a, mPl T n nd np (h 2 2) P = .inr (k, v, a) → ∀ h', (∀ o j, ¬ cTs o j → ¬ (p ≤ o ∧ o ≤ p + 5) → h' o j = h o j) → h' 2 2 = a → h' 2 4 = 0 → h' 2 6 = h 2 6 → h' p 6 = h p 6 → cPlan p h' (P ++ [(k, v)]) → R 0 c h') : zCl (d + 3) 105 [(2, p), (2, 2), (2, t)] c h R X := by
  have h12 := wPl_12 hnd.2 w
  have hp' := hp
  have ht' := ht
  unfold zIsP at hp'
  unfold zIsR at ht'
  have b1 := nBE (T := T) ha.2
  have b2 := nBE (T := T) b1.2.2
  -- with a fault the rest of the line is read for nothing
  have rest67 : ∀ K PL i3 i4 h1, mPl T n nd np (h 2 2) P = .inl (K, PL) → cBad h h1 n K PL → zWp (d + 3) 105 67 [(2, p), (2, 2), (2, t), (0, i3), (0, i4)] [] (zTS c h1) (zQ 0 R X) := by
    intro K PL i3 i4 h1 e q
    have hk := mPl_K hnp ha.1 ha.2 e
    refine b_105_67 hp ht (s_81u wt (by decide) (cTape_fr q.1 ct) q.2.2.2 (by rw [q.2.1]; omega) (fun h2 f2 g4 g6 g2 => b_77 ⟨fun _ => ⟨fun _ => kf K PL e h2 (fun o j v => by rw [f2 o j v, q.1 o j v]) (by rw [g4, q.2.1]) (by rw [g6, q.2.2.1]), fun v => absurd rfl v⟩, fun v => by rw [g4, q.2.1] at v; omega⟩))
  have rest33 : ∀ K PL i3 h1, mPl T n nd np (h 2 2) P = .inl (K, PL) → cBad h h1 n K PL → zWp (d + 3) 105 33 [(2, p), (2, 2), (2, t), (0, i3), (9, 0)] [] (zTS c h1) (zQ 0 R X) := by
    intro K PL i3 h1 e q
    have hk := mPl_K hnp ha.1 ha.2 e
    refine b_105_33 hp ht (s_106u wt ht (cTape_fr q.1 ct) q.2.2.2 (by rw [q.2.1]; omega) (fun y h2 q2 => ?_))
    have q3 : cBad h h2 n K PL := ⟨fun o j v => by rw [q2.1 o j v, q.1 o j v], by rw [q2.2.1, q.2.1], by rw [q2.2.2.1, q.2.2.1], q2.2.2.2⟩
    exact b_77 ⟨fun _ => ⟨fun _ => rest67 K PL _ _ h2 e q3, fun v => absurd rfl v⟩, fun v => by rw [q3.2.1] at v; omega⟩
  refine b_105 hp ht ?_
  rw [hD, w32_e (by omega) (by omega)]
  refine s_74 wt ct ha h4 (fun K PL e y h1 f1 g4 g6 g2 _ => ?_) (fun e h1 f1 g2 g3 g4 g6 => ?_)
  · have hk := nF_K ha.1 ha.2 e
    have em : mPl T n nd np (h 2 2) P = .inl (K, PL) := by
      unfold mPl
      rw [e]
    exact b_77 ⟨fun _ => ⟨fun _ => rest33 K PL _ h1 em ⟨f1, g4, g6, g2⟩, fun v => absurd rfl v⟩, fun v => by omega⟩
  · have hv := (nF_v e).1
    have cp1 : cPlan p h1 P := cPlan_fr (fun o j a b => f1 o j (by unfold cTs; omega)) cp
    refine b_77 ⟨fun v => absurd g4 v, fun _ => ⟨fun v => absurd v (by decide), fun _ => s_40 hp cp1 h12 ⟨fun q => ?_, fun q => ?_⟩⟩⟩
    · -- a new deed
      have emL : ∀ K PL, mPp T n np (nE T n (h 2 2)) = .inl (K, PL) → mPl T n nd np (h 2 2) P = .inl (K, PL) := by
        intro K PL e2
        unfold mPl
        rw [e]
        simp only
        rw [if_pos q, e2]
      -- the end of the line
      have fin : ∀ x y h2, mPp T n np (nE T n (h 2 2)) = .inr (x, y) → (∀ o j, ¬ cTs o j → h2 o j = h o j) → h2 2 2 = y → h2 2 4 = 0 → h2 2 6 = h 2 6 → zWp (d + 3) 105 67 [(2, p), (2, 2), (2, t), (0, nV T n (h 2 2)), (0, x)] [] (zTS c h2) (zQ 0 R X) := by
        intro x y h2 e2 f2 i2 i4 i6
        have r := mPp_r hnp (by omega) b1.2.2 e2
        refine b_105_67 hp ht (s_81 wt (by decide) (cTape_fr f2 ct) (by omega) i4 (fun K PL e3 h3 f3 l4 l6 l2 => ?_) (fun e3 h3 f3 l2 l2' l4 l6 => ?_))
        · rw [i2] at e3
          have em : mPl T n nd np (h 2 2) P = .inl (K, PL) := by
            unfold mPl
            rw [e]
            simp only
            rw [if_pos q, e2]
            simp only
            rw [e3]
          have hk := mPl_K hnp ha.1 ha.2 em
          exact b_77 ⟨fun _ => ⟨fun _ => kf K PL em h3 (fun o j v => by rw [f3 o j v, f2 o j v]) l4 l6, fun v => absurd rfl v⟩, fun v => by omega⟩
        · rw [i2] at e3 l2
          have em : mPl T n nd np (h 2 2) P = .inr (nV T n (h 2 2), x, nB T n y + 1) := by
            unfold mPl
            rw [e]
            simp only
            rw [if_pos q, e2]
            simp only
            rw [e3]
          have mr := mPl_r hnp ha.1 ha.2 em
          have w2 := wPl_app w mr.1 mr.2.1 mr.2.2.2
          have l12 := wPl_12 hnd.2 w2
          rw [len_app] at l12
          have fr3 : ∀ o j, ¬ cTs o j → h3 o j = h o j := fun o j v => by rw [f3 o j v, f2 o j v]
          have e5 : h3 p 5 = P.length := by rw [fr3 _ _ (by unfold cTs; omega), cp.1]
          refine b_77 ⟨fun v => absurd l4 v, fun _ => ⟨fun v => absurd v (by decide), fun _ => ⟨fun v => by omega, fun _ => ?_⟩⟩⟩
          rw [hw_ne (o := p + 4) (o' := p) (by omega), hw_ne (o := p + 5) (o' := p) (by omega), hw_ne (o := p + 4) (o' := p) (by omega), e5, w32_e (by omega) (by omega)]
          refine ⟨by omega, by omega, ks _ _ _ em _ (fun o j v1 v2 => by rw [hw_ne (by omega), hw_ne (by omega), hw_ne (by omega), fr3 o j v1]) ?_ ?_ ?_ ?_ (cPlan_app cp (hw_eq ⟨rfl, rfl⟩) (fun j a b => ?_) ⟨?_, ?_⟩)⟩
          · rw [hw_ne (by omega), hw_ne (by omega), hw_ne (by omega), l2]
          · rw [hw_ne (by omega), hw_ne (by omega), hw_ne (by omega), l4]
          · rw [hw_ne (by omega), hw_ne (by omega), hw_ne (by omega), l6, i6]
          · rw [hw_ne (by omega), hw_ne (by omega), hw_ne (by omega), fr3 _ _ (by unfold cTs; omega)]
          · rw [hw_ne (by omega), hw_ne (by omega), hw_ne (by omega), hw_ne (by omega), hw_ne (by omega), hw_ne (by omega), fr3 _ _ (by unfold cTs; omega), fr3 _ _ (by unfold cTs; omega)]
            exact ⟨rfl, rfl⟩
          · rw [hw_ne (by omega), hw_ne (by omega), hw_eq ⟨rfl, rfl⟩]
          · rw [hw_ne (by omega), hw_eq ⟨rfl, rfl⟩]
      refine b_105_33 hp ht (s_106 (np := np) wt ht (by rw [f1 _ _ (by unfold cTs; omega), hN]) hnp (cTape_fr f1 ct) (by omega) g4 (fun K PL e2 y h2 q2 => ?_) (fun e2 z => ?_) (fun e2 z h2 f2 i2 i4 i6 => ?_))
      · rw [g2] at e2
        have em := emL K PL (by unfold mPp; rw [e2])
        have hk := mPl_K hnp ha.1 ha.2 em
        exact b_77 ⟨fun _ => ⟨fun _ => rest67 K PL _ _ h2 em ⟨fun o j v => by rw [q2.1 o j v, f1 o j v], q2.2⟩, fun v => absurd rfl v⟩, fun v => by rw [q2.2.1] at v; omega⟩
      · rw [g2] at e2
        have v2 := (nF_v e2).1
        have := zb_hi (x := 0) (p := nV T n (h1 2 2)) (n := 0) (by decide) (by decide) (by decide) (by rw [g2]; omega) (by rw [g2]; omega)
        omega
      · rw [g2] at e2 i2 ⊢
        have v2 := (nF_v e2).1
        have fr2 : ∀ o j, ¬ cTs o j → h2 o j = h o j := fun o j v => by rw [f2 o j v, f1 o j v]
        refine b_77 ⟨fun v => absurd i4 v, fun _ => ⟨fun v => absurd v (by decide), fun _ => s_95 wt (cTape_fr fr2 ct) (by omega) (fun z2 h3 f3 l2 => ⟨fun v => absurd v (by decide), fun _ => ?_⟩) (fun z2 h3 f3 l2 => ⟨fun _ => ?_, fun v => absurd rfl v⟩)⟩⟩
        · -- a second person
          rw [i2] at z2 l2
          have fr3 : ∀ o j, ¬ cTs o j → h3 o j = h o j := fun o j v => by rw [f3 o j (by have := cTs2 v; omega), fr2 o j v]
          have b3 := nBE (T := T) b2.2.2
          refine s_106 (np := np) wt ht (by rw [fr3 _ _ (by unfold cTs; omega), hN]) hnp (cTape_fr fr3 ct) (by omega) (by rw [f3 _ _ (by omega), i4]) (fun K PL e3 y h5 q5 => ?_) (fun e3 zz y h5 q5 => ?_) (fun e3 zz h5 f5 j2 j4 j6 => ?_)
          · rw [l2, nF_i b2.2.2] at e3
            have em := emL K PL (by unfold mPp; rw [e2]; simp only; rw [if_pos z2, e3])
            exact rest67 K PL _ _ h5 em ⟨fun o j v => by rw [q5.1 o j v, fr3 o j v], q5.2⟩
          · rw [l2, nF_i b2.2.2] at e3
            rw [l2, nV_i b2.2.2] at zz
            have v3 := (nF_v e3).1
            rw [zb_sh (by omega) (by omega)] at zz
            have eq : nV T n (nE T n (nE T n (h 2 2))) = nV T n (nE T n (h 2 2)) := by
              by_cases u : nV T n (nE T n (nE T n (h 2 2))) = nV T n (nE T n (h 2 2))
              · exact u
              · rw [if_neg u] at zz
                omega
            have em := emL 2 (nB T n (nE T n (nE T n (h 2 2)))) (by unfold mPp; rw [e2]; simp only; rw [if_pos z2, e3]; simp only; rw [if_pos eq])
            rw [l2, nB_i b2.2.2] at q5
            exact rest67 2 _ _ _ h5 em ⟨fun o j v => by rw [q5.1 o j v, fr3 o j v], q5.2⟩
          · rw [l2, nF_i b2.2.2] at e3
            rw [l2, nV_i b2.2.2] at zz ⊢
            rw [l2, nE_i b2.2.2] at j2
            have v3 := (nF_v e3).1
            rw [zb_sh (by omega) (by omega)] at zz
            have ne : ¬ nV T n (nE T n (nE T n (h 2 2))) = nV T n (nE T n (h 2 2)) := by
              intro u
              rw [if_pos u] at zz
              omega
            refine fin _ _ h5 (by unfold mPp; rw [e2]; simp only; rw [if_pos z2, e3]; simp only; rw [if_neg ne]) (fun o j v => by rw [f5 o j v, fr3 o j v]) j2 j4 (by rw [j6, f3 _ _ (by omega), i6, g6])
        · rw [i2] at z2 l2
          have fr3 : ∀ o j, ¬ cTs o j → h3 o j = h o j := fun o j v => by rw [f3 o j (by have := cTs2 v; omega), fr2 o j v]
          refine fin _ _ h3 (by unfold mPp; rw [e2]; simp only; rw [if_neg z2]) fr3 l2 (by rw [f3 _ _ (by omega), i4]) (by rw [f3 _ _ (by omega), i6, g6])
    · have em : mPl T n nd np (h 2 2) P = .inl (2, nB T n (h 2 2)) := by
        unfold mPl
        rw [e]
        simp only
        rw [if_neg q]
      refine b_71 (s_72 (fun v => absurd g4 v) (fun _ => ?_))
      rw [g3]
      refine rest33 2 _ _ _ em ⟨fun o j v => ?_, ?_, hw_eq ⟨rfl, rfl⟩, ?_⟩
      · have := cTs2 v
        rw [hw_ne (by omega), hw_ne (by omega), f1 o j v]
      · rw [hw_ne (by omega), hw_eq ⟨rfl, rfl⟩]
      · rw [hw_ne (by omega), hw_ne (by omega), g2]
        omega
