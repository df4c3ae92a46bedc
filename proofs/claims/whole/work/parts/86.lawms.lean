/-! a law's text: products, sums, all of it, the reference -/
/-- the loop of products -/
theorem m_243_4 {T : Int → Int} {n : Int} (wt : wTape T n) (hn : n ≤ 150) {E : Nat} {op : Int} {U : lS → lS} (hUg : ∀ s, lK s n → lGo isE n s (U s)) {d : Nat} (hU : mSm T n (d + E + 7) 244 op U) {c : Nat} {R : Int → Nat → zH → Prop} {X : Nat → Nat → zH → Prop} : ∀ (f k : Nat) (h : zH) (s : lS), k + f = 150 → mTape h T n → mPs h n s.1 → h 113 7 = op → lK s n → (∀ a, s.1 = .inr a → (k : Int) + 1 ≤ a) → (isOkS s.1 → mStp h s.2) → (∀ h', (∀ o j, ¬ mTs o j → ¬ mLz o j → h' o j = h o j) → mPs h' n (lLp T n U 42 1008 47 1009 f s).1 → h' 113 7 = op → (isOkS (lLp T n U 42 1008 47 1009 f s).1 → mStp h' (lLp T n U 42 1008 47 1009 f s).2) → R 0 c h') → zWp (d + E + 8) 243 4 [(2, 113), (9, 0)] [] (zTS c h) (zQ 0 R X) := by
  have bad : ∀ (h : zH), h 113 5 ≠ -1 → R 0 c h → zWp (d + E + 8) 243 4 [(2, 113), (9, 0)] [] (zTS c h) (zQ 0 R X) := fun h h5 k => b_243_4 (d := d + E + 4) (b_224 ⟨fun _ => ⟨fun _ => k, fun v => absurd rfl v⟩, fun w => absurd w h5⟩)
  intro f
  induction f with
  | zero =>
    intro k h s hk mt ps h7 lk pk st K
    cases e : s.1 with
    | inl f =>
      rw [lLp] at K
      rw [e] at ps K
      exact bad h (by have := ps.2.1; have := ps.2.2.1; omega) (K h (fun _ _ _ _ => rfl) ps h7 (fun ok => absurd ok (fun v => v)))
    | inr a =>
      have := pk a e
      unfold lK at lk
      rw [e] at lk
      dsimp only at lk
      omega
  | succ f ih =>
    intro k h s hk mt ps h7 lk pk st K
    rw [lLp] at K
    cases e : s.1 with
    | inl f =>
      rw [e] at ps K
      dsimp only at K
      rw [e] at K
      exact bad h (by have := ps.2.1; have := ps.2.2.1; omega) (K h (fun _ _ _ _ => rfl) ps h7 (fun ok => absurd ok (fun v => v)))
    | inr a =>
      have pa := pk a e
      have lk' := lk
      unfold lK at lk'
      rw [e] at ps K lk' st
      dsimp only at K lk'
      have st' := st trivial
      have hbe := nBE (T := T) lk'.1.2
      have w1 := wt.1
      obtain ⟨p5, p4, pr⟩ := ps
      have step : ∀ (x : Int) (h1 : zH), (1006 ≤ x ∧ x ≤ 1011) → nB T n a < n → (∀ o j, ¬ mTs o j → h1 o j = h o j) → h1 113 4 = nB T n a → h1 113 5 = -1 → (∀ h', (∀ o j, ¬ mTs o j → ¬ mLz o j → h' o j = h o j) → mPs h' n (lLp T n U 42 1008 47 1009 f (lAp (U (.inr (nB T n a + 1), s.2)) x)).1 → h' 113 7 = op → (isOkS (lLp T n U 42 1008 47 1009 f (lAp (U (.inr (nB T n a + 1), s.2)) x)).1 → mStp h' (lLp T n U 42 1008 47 1009 f (lAp (U (.inr (nB T n a + 1), s.2)) x)).2) → R 0 c h') → zCl (d + E + 7) 244 [(2, 113)] c (hw h1 113 4 (w32 ((h1 113 4) + 1))) (fun _ c h => zCl (d + E + 7) 246 [(2, 113), (0, x - 1004), (0, 0)] c h (fun _ c h => zWp (d + E + 8) 243 4 [(2, 113), (9, 0)] [] (zTS c h) (zQ 0 R X)) X) X := by
        intro x h1 hx q f1 e4 e5 KK
        have k1 : lK (.inr (nB T n a + 1), s.2) n := by
          show (0 ≤ nB T n a + 1 ∧ nB T n a + 1 ≤ n) ∧ (s.2.length : Int) ≤ nB T n a + 1
          omega
        have g1 := hUg _ k1
        rw [e4, w32_e (by omega) (by omega)]
        have f1' : ∀ o j, ¬ mTs o j → (hw h1 113 4 (nB T n a + 1)) o j = h o j := fun o j v => by rw [hw_ne (by unfold mTs at v; omega), f1 o j v]
        refine hU c _ X _ (nB T n a + 1) s.2 (mTape_fr f1' mt) ⟨by rw [hw_ne (by omega)]; exact e5, hw_eq ⟨rfl, rfl⟩, k1.1⟩ (by rw [f1' _ _ (by unfold mTs; omega)]; exact h7) k1 (mStp_fr (fun o j v => f1' o j (by unfold mLt at v; unfold mTs; omega)) st') (fun h2 f2 p2 b2 g2 => ?_)
        have f2' : ∀ o j, ¬ mTs o j → ¬ mLz o j → h2 o j = h o j := fun o j u v => by rw [f2 o j u v, f1' o j u]
        unfold lGo at g1
        cases e1 : (U (.inr (nB T n a + 1), s.2)).1 with
        | inl f0 =>
          rw [e1] at p2 g1
          have nx1 : lAp (U (.inr (nB T n a + 1), s.2)) x = (.inl f0, (U (.inr (nB T n a + 1), s.2)).2 ++ [x]) := by
            unfold lAp
            rw [e1]
          refine s_246u (by have := p2.2.1; have := p2.2.2.1; omega) (bad h2 (by have := p2.2.1; have := p2.2.2.1; omega) (KK h2 f2' ?_ b2 (fun ok => ?_)))
          · rw [nx1, lLp_inl]
            exact p2
          · rw [nx1, lLp_inl] at ok
            exact absurd ok (fun v => v)
        | inr b =>
          rw [e1] at p2 g1
          have s2 := g2 (by rw [e1]; trivial)
          obtain ⟨a0, M, q1, q2, q3, q4, q5⟩ := g1
          have q1 := Sum.inr.inj (show (Sum.inr (nB T n a + 1) : (Int × Int) ⊕ Int) = Sum.inr a0 from q1)
          dsimp only at q2
          have ql := isE_len q3
          have l2 : ((U (.inr (nB T n a + 1), s.2)).2.length : Int) + 1 ≤ b := by
            rw [q2, List.length_append]
            omega
          refine s_246 (x := x) p2.1 s2 (by omega) ⟨fun v => by omega, fun v w => by omega, fun _ => rfl⟩ (fun h3 f3 s3 => ?_)
          have f3' : ∀ o j, ¬ mTs o j → ¬ mLz o j → h3 o j = h o j := fun o j u v => by rw [f3 o j (by unfold mLz at v; unfold mLt; omega), f2' o j u v]
          have p3 : mPs h3 n (lAp (U (.inr (nB T n a + 1), s.2)) x).1 := by
            unfold lAp
            rw [e1]
            exact mPs_fr ⟨f3 _ _ (by unfold mLt; omega), f3 _ _ (by unfold mLt; omega), f3 _ _ (by unfold mLt; omega)⟩ p2
          have k3 : lK (lAp (U (.inr (nB T n a + 1), s.2)) x) n := by
            unfold lK lAp
            rw [e1]
            dsimp only
            rw [List.length_append]
            simp only [List.length_cons, List.length_nil]
            omega
          refine ih (k + 1) h3 _ (by omega) (mT_of f3' mt) p3 (by rw [f3 _ _ (by unfold mLt; omega)]; exact b2) k3 (fun a' ea => ?_) (fun _ => s3) (fun h' f' p' b' g' => KK h' (fun o j u v => by rw [f' o j u v, f3' o j u v]) p' b' g')
          have ea' : (U (.inr (nB T n a + 1), s.2)).1 = .inr a' := ea
          rw [e1] at ea'
          injection ea' with ea'
          omega
      refine b_243_4 (d := d + E + 4) (b_224 ⟨fun w => absurd p5 w, fun _ => ⟨fun v => absurd v (by decide), fun _ => s_226 wt mt (by omega) (fun h1 f1 e1 => ?_)⟩⟩)
      rw [show run isB T n (h 113 4) = nB T n (h 113 4) from rfl, p4] at e1
      rw [show run isB T n (h 113 4) = nB T n (h 113 4) from rfl, p4]
      have f1' : ∀ o j, ¬ mTs o j → h1 o j = h o j := fun o j v => f1 o j (by have := mTs2 v; omega)
      have mt1 := mTape_fr f1' mt
      have h15 : h1 113 5 = -1 := by rw [f1 _ _ (by omega)]; exact p5
      have hh1 : ∀ h', (∀ o j, ¬ (o = 113 ∧ j = 4) → h' o j = h1 o j) → h' 113 4 = nB T n a → h' = h1 := by
        intro h' f e
        funext o j
        by_cases w : o = 113 ∧ j = 4
        · rw [w.1, w.2, e, e1]
        · exact f o j w
      have here : ∀ (Q : Int → Nat → zH → Prop), Q (if nB T n a < n then T (nB T n a) else 0) c h1 → zCl (d + E + 7) 226 [(2, 113)] c h1 Q X := by
        intro Q hQ
        refine s_226 wt mt1 (by omega) (fun h2 f2 e2 => ?_)
        rw [show run isB T n (h1 113 4) = nB T n (h1 113 4) from rfl, e1, nB_i lk'.1.2] at e2
        rw [show run isB T n (h1 113 4) = nB T n (h1 113 4) from rfl, e1, nB_i lk'.1.2, hh1 h2 f2 e2]
        exact hQ
      refine ⟨fun y1 => here _ ⟨fun v => absurd y1 v, fun _ => ?_⟩, fun n1 => here _ ⟨fun n2 => ?_, fun y2 => here _ ⟨fun _ => ?_, fun v => absurd v n1⟩⟩⟩
      · have q : nB T n a < n ∧ T (nB T n a) = 42 := by
          by_cases w : nB T n a < n
          · rw [if_pos w] at y1
            exact ⟨w, y1⟩
          · rw [if_neg w] at y1
            omega
        rw [if_pos q] at K
        exact step 1008 h1 (by decide) q.1 f1' e1 h15 K
      · have q : ¬ (nB T n a < n ∧ T (nB T n a) = 42) := fun w => n1 (by rw [if_pos w.1]; exact w.2)
        have q2 : ¬ (nB T n a < n ∧ T (nB T n a) = 47) := fun w => n2 (by rw [if_pos w.1]; exact w.2)
        rw [if_neg q, if_neg q2] at K
        exact K h1 (fun o j u _ => f1' o j u) ⟨h15, e1, by show 0 ≤ nB T n a ∧ nB T n a ≤ n; omega⟩ (by rw [f1 _ _ (by omega)]; exact h7) (fun _ => mStp_fr (fun o j v => f1' o j (by unfold mLt at v; unfold mTs; omega)) st')
      · have q : ¬ (nB T n a < n ∧ T (nB T n a) = 42) := fun w => n1 (by rw [if_pos w.1]; exact w.2)
        have q2 : nB T n a < n ∧ T (nB T n a) = 47 := by
          by_cases w : nB T n a < n
          · rw [if_pos w] at y2
            exact ⟨w, y2⟩
          · rw [if_neg w] at y2
            omega
        rw [if_neg q, if_pos q2] at K
        exact step 1009 h1 (by decide) q2.1 f1' e1 h15 K
theorem m_243 {T : Int → Int} {n : Int} (wt : wTape T n) (hn : n ≤ 150) {E : Nat} {op : Int} {U : lS → lS} (hUg : ∀ s, lK s n → lGo isE n s (U s)) {d : Nat} (hU : mSm T n (d + E + 7) 244 op U) : mSm T n (d + E + 8) 243 op (fun s => lLp T n U 42 1008 47 1009 150 (U s)) := by
  intro c R X h a L mt ps h7 lk st K
  refine b_243 (d := d + E + 4) (hU c _ X h a L mt ps h7 lk st (fun h1 f1 p1 b1 g1 => ?_))
  have gg := hUg _ lk
  refine m_243_4 wt hn hUg hU 150 0 h1 (U (.inr a, L)) (by omega) (mT_of f1 mt) p1 b1 (lGo_K lk gg) (fun a' ea => ?_) g1 (fun h' f' p' b' g' => K h' (fun o j u v => by rw [f' o j u v, f1 o j u v]) p' b' g')
  unfold lGo at gg
  rw [ea] at gg
  obtain ⟨a0, M, q1, q2, q3, q4, q5⟩ := gg
  have q1 := Sum.inr.inj (show (Sum.inr a : (Int × Int) ⊕ Int) = Sum.inr a0 from q1)
  have := isE_len q3
  have lk' : (0 ≤ a ∧ a ≤ n) ∧ (L.length : Int) ≤ a := lk
  omega
/-- the loop of sums -/
theorem m_242_4 {T : Int → Int} {n : Int} (wt : wTape T n) (hn : n ≤ 150) {E : Nat} {op : Int} {U : lS → lS} (hUg : ∀ s, lK s n → lGo isE n s (U s)) {d : Nat} (hU : mSm T n (d + E + 8) 243 op U) {c : Nat} {R : Int → Nat → zH → Prop} {X : Nat → Nat → zH → Prop} : ∀ (f k : Nat) (h : zH) (s : lS), k + f = 150 → mTape h T n → mPs h n s.1 → h 113 7 = op → lK s n → (∀ a, s.1 = .inr a → (k : Int) + 1 ≤ a) → (isOkS s.1 → mStp h s.2) → (∀ h', (∀ o j, ¬ mTs o j → ¬ mLz o j → h' o j = h o j) → mPs h' n (lLp T n U 43 1006 45 1007 f s).1 → h' 113 7 = op → (isOkS (lLp T n U 43 1006 45 1007 f s).1 → mStp h' (lLp T n U 43 1006 45 1007 f s).2) → R 0 c h') → zWp (d + E + 9) 242 4 [(2, 113), (9, 0)] [] (zTS c h) (zQ 0 R X) := by
  have bad : ∀ (h : zH), h 113 5 ≠ -1 → R 0 c h → zWp (d + E + 9) 242 4 [(2, 113), (9, 0)] [] (zTS c h) (zQ 0 R X) := fun h h5 k => b_242_4 (d := d + E + 4) (b_224 ⟨fun _ => ⟨fun _ => k, fun v => absurd rfl v⟩, fun w => absurd w h5⟩)
  intro f
  induction f with
  | zero =>
    intro k h s hk mt ps h7 lk pk st K
    cases e : s.1 with
    | inl f =>
      rw [lLp] at K
      rw [e] at ps K
      exact bad h (by have := ps.2.1; have := ps.2.2.1; omega) (K h (fun _ _ _ _ => rfl) ps h7 (fun ok => absurd ok (fun v => v)))
    | inr a =>
      have := pk a e
      unfold lK at lk
      rw [e] at lk
      dsimp only at lk
      omega
  | succ f ih =>
    intro k h s hk mt ps h7 lk pk st K
    rw [lLp] at K
    cases e : s.1 with
    | inl f =>
      rw [e] at ps K
      dsimp only at K
      rw [e] at K
      exact bad h (by have := ps.2.1; have := ps.2.2.1; omega) (K h (fun _ _ _ _ => rfl) ps h7 (fun ok => absurd ok (fun v => v)))
    | inr a =>
      have pa := pk a e
      have lk' := lk
      unfold lK at lk'
      rw [e] at ps K lk' st
      dsimp only at K lk'
      have st' := st trivial
      have hbe := nBE (T := T) lk'.1.2
      have w1 := wt.1
      obtain ⟨p5, p4, pr⟩ := ps
      have step : ∀ (x : Int) (h1 : zH), (1006 ≤ x ∧ x ≤ 1011) → nB T n a < n → (∀ o j, ¬ mTs o j → h1 o j = h o j) → h1 113 4 = nB T n a → h1 113 5 = -1 → (∀ h', (∀ o j, ¬ mTs o j → ¬ mLz o j → h' o j = h o j) → mPs h' n (lLp T n U 43 1006 45 1007 f (lAp (U (.inr (nB T n a + 1), s.2)) x)).1 → h' 113 7 = op → (isOkS (lLp T n U 43 1006 45 1007 f (lAp (U (.inr (nB T n a + 1), s.2)) x)).1 → mStp h' (lLp T n U 43 1006 45 1007 f (lAp (U (.inr (nB T n a + 1), s.2)) x)).2) → R 0 c h') → zCl (d + E + 8) 243 [(2, 113)] c (hw h1 113 4 (w32 ((h1 113 4) + 1))) (fun _ c h => zCl (d + E + 8) 246 [(2, 113), (0, x - 1004), (0, 0)] c h (fun _ c h => zWp (d + E + 9) 242 4 [(2, 113), (9, 0)] [] (zTS c h) (zQ 0 R X)) X) X := by
        intro x h1 hx q f1 e4 e5 KK
        have k1 : lK (.inr (nB T n a + 1), s.2) n := by
          show (0 ≤ nB T n a + 1 ∧ nB T n a + 1 ≤ n) ∧ (s.2.length : Int) ≤ nB T n a + 1
          omega
        have g1 := hUg _ k1
        rw [e4, w32_e (by omega) (by omega)]
        have f1' : ∀ o j, ¬ mTs o j → (hw h1 113 4 (nB T n a + 1)) o j = h o j := fun o j v => by rw [hw_ne (by unfold mTs at v; omega), f1 o j v]
        refine hU c _ X _ (nB T n a + 1) s.2 (mTape_fr f1' mt) ⟨by rw [hw_ne (by omega)]; exact e5, hw_eq ⟨rfl, rfl⟩, k1.1⟩ (by rw [f1' _ _ (by unfold mTs; omega)]; exact h7) k1 (mStp_fr (fun o j v => f1' o j (by unfold mLt at v; unfold mTs; omega)) st') (fun h2 f2 p2 b2 g2 => ?_)
        have f2' : ∀ o j, ¬ mTs o j → ¬ mLz o j → h2 o j = h o j := fun o j u v => by rw [f2 o j u v, f1' o j u]
        unfold lGo at g1
        cases e1 : (U (.inr (nB T n a + 1), s.2)).1 with
        | inl f0 =>
          rw [e1] at p2 g1
          have nx1 : lAp (U (.inr (nB T n a + 1), s.2)) x = (.inl f0, (U (.inr (nB T n a + 1), s.2)).2 ++ [x]) := by
            unfold lAp
            rw [e1]
          refine s_246u (by have := p2.2.1; have := p2.2.2.1; omega) (bad h2 (by have := p2.2.1; have := p2.2.2.1; omega) (KK h2 f2' ?_ b2 (fun ok => ?_)))
          · rw [nx1, lLp_inl]
            exact p2
          · rw [nx1, lLp_inl] at ok
            exact absurd ok (fun v => v)
        | inr b =>
          rw [e1] at p2 g1
          have s2 := g2 (by rw [e1]; trivial)
          obtain ⟨a0, M, q1, q2, q3, q4, q5⟩ := g1
          have q1 := Sum.inr.inj (show (Sum.inr (nB T n a + 1) : (Int × Int) ⊕ Int) = Sum.inr a0 from q1)
          dsimp only at q2
          have ql := isE_len q3
          have l2 : ((U (.inr (nB T n a + 1), s.2)).2.length : Int) + 1 ≤ b := by
            rw [q2, List.length_append]
            omega
          refine s_246 (x := x) p2.1 s2 (by omega) ⟨fun v => by omega, fun v w => by omega, fun _ => rfl⟩ (fun h3 f3 s3 => ?_)
          have f3' : ∀ o j, ¬ mTs o j → ¬ mLz o j → h3 o j = h o j := fun o j u v => by rw [f3 o j (by unfold mLz at v; unfold mLt; omega), f2' o j u v]
          have p3 : mPs h3 n (lAp (U (.inr (nB T n a + 1), s.2)) x).1 := by
            unfold lAp
            rw [e1]
            exact mPs_fr ⟨f3 _ _ (by unfold mLt; omega), f3 _ _ (by unfold mLt; omega), f3 _ _ (by unfold mLt; omega)⟩ p2
          have k3 : lK (lAp (U (.inr (nB T n a + 1), s.2)) x) n := by
            unfold lK lAp
            rw [e1]
            dsimp only
            rw [List.length_append]
            simp only [List.length_cons, List.length_nil]
            omega
          refine ih (k + 1) h3 _ (by omega) (mT_of f3' mt) p3 (by rw [f3 _ _ (by unfold mLt; omega)]; exact b2) k3 (fun a' ea => ?_) (fun _ => s3) (fun h' f' p' b' g' => KK h' (fun o j u v => by rw [f' o j u v, f3' o j u v]) p' b' g')
          have ea' : (U (.inr (nB T n a + 1), s.2)).1 = .inr a' := ea
          rw [e1] at ea'
          injection ea' with ea'
          omega
      refine b_242_4 (d := d + E + 4) (b_224 ⟨fun w => absurd p5 w, fun _ => ⟨fun v => absurd v (by decide), fun _ => s_226 wt mt (by omega) (fun h1 f1 e1 => ?_)⟩⟩)
      rw [show run isB T n (h 113 4) = nB T n (h 113 4) from rfl, p4] at e1
      rw [show run isB T n (h 113 4) = nB T n (h 113 4) from rfl, p4]
      have f1' : ∀ o j, ¬ mTs o j → h1 o j = h o j := fun o j v => f1 o j (by have := mTs2 v; omega)
      have mt1 := mTape_fr f1' mt
      have h15 : h1 113 5 = -1 := by rw [f1 _ _ (by omega)]; exact p5
      have hh1 : ∀ h', (∀ o j, ¬ (o = 113 ∧ j = 4) → h' o j = h1 o j) → h' 113 4 = nB T n a → h' = h1 := by
        intro h' f e
        funext o j
        by_cases w : o = 113 ∧ j = 4
        · rw [w.1, w.2, e, e1]
        · exact f o j w
      have here : ∀ (Q : Int → Nat → zH → Prop), Q (if nB T n a < n then T (nB T n a) else 0) c h1 → zCl (d + E + 8) 226 [(2, 113)] c h1 Q X := by
        intro Q hQ
        refine s_226 wt mt1 (by omega) (fun h2 f2 e2 => ?_)
        rw [show run isB T n (h1 113 4) = nB T n (h1 113 4) from rfl, e1, nB_i lk'.1.2] at e2
        rw [show run isB T n (h1 113 4) = nB T n (h1 113 4) from rfl, e1, nB_i lk'.1.2, hh1 h2 f2 e2]
        exact hQ
      refine ⟨fun y1 => here _ ⟨fun v => absurd y1 v, fun _ => ?_⟩, fun n1 => here _ ⟨fun n2 => ?_, fun y2 => here _ ⟨fun _ => ?_, fun v => absurd v n1⟩⟩⟩
      · have q : nB T n a < n ∧ T (nB T n a) = 43 := by
          by_cases w : nB T n a < n
          · rw [if_pos w] at y1
            exact ⟨w, y1⟩
          · rw [if_neg w] at y1
            omega
        rw [if_pos q] at K
        exact step 1006 h1 (by decide) q.1 f1' e1 h15 K
      · have q : ¬ (nB T n a < n ∧ T (nB T n a) = 43) := fun w => n1 (by rw [if_pos w.1]; exact w.2)
        have q2 : ¬ (nB T n a < n ∧ T (nB T n a) = 45) := fun w => n2 (by rw [if_pos w.1]; exact w.2)
        rw [if_neg q, if_neg q2] at K
        exact K h1 (fun o j u _ => f1' o j u) ⟨h15, e1, by show 0 ≤ nB T n a ∧ nB T n a ≤ n; omega⟩ (by rw [f1 _ _ (by omega)]; exact h7) (fun _ => mStp_fr (fun o j v => f1' o j (by unfold mLt at v; unfold mTs; omega)) st')
      · have q : ¬ (nB T n a < n ∧ T (nB T n a) = 43) := fun w => n1 (by rw [if_pos w.1]; exact w.2)
        have q2 : nB T n a < n ∧ T (nB T n a) = 45 := by
          by_cases w : nB T n a < n
          · rw [if_pos w] at y2
            exact ⟨w, y2⟩
          · rw [if_neg w] at y2
            omega
        rw [if_neg q, if_pos q2] at K
        exact step 1007 h1 (by decide) q2.1 f1' e1 h15 K
theorem m_242 {T : Int → Int} {n : Int} (wt : wTape T n) (hn : n ≤ 150) {E : Nat} {op : Int} {U : lS → lS} (hUg : ∀ s, lK s n → lGo isE n s (U s)) {d : Nat} (hU : mSm T n (d + E + 8) 243 op U) : mSm T n (d + E + 9) 242 op (fun s => lLp T n U 43 1006 45 1007 150 (U s)) := by
  intro c R X h a L mt ps h7 lk st K
  refine b_242 (d := d + E + 4) (hU c _ X h a L mt ps h7 lk st (fun h1 f1 p1 b1 g1 => ?_))
  have gg := hUg _ lk
  refine m_242_4 wt hn hUg hU 150 0 h1 (U (.inr a, L)) (by omega) (mT_of f1 mt) p1 b1 (lGo_K lk gg) (fun a' ea => ?_) g1 (fun h' f' p' b' g' => K h' (fun o j u v => by rw [f' o j u v, f1 o j u v]) p' b' g')
  unfold lGo at gg
  rw [ea] at gg
  obtain ⟨a0, M, q1, q2, q3, q4, q5⟩ := gg
  have q1 := Sum.inr.inj (show (Sum.inr a : (Int × Int) ⊕ Int) = Sum.inr a0 from q1)
  have := isE_len q3
  have lk' : (0 ≤ a ∧ a ≤ n) ∧ (L.length : Int) ≤ a := lk
  omega
theorem m_sum {T : Int → Int} {n : Int} (wt : wTape T n) (hn : n ≤ 150) : ∀ (g : Nat) (op : Int), 1 ≤ g → op + g = 7 → 0 ≤ op → ∀ d, mSm T n (d + 4 * g + 5) 242 op (lSm T n g op)
  | 0, op, h1, _, _, _ => by omega
  | g + 1, op, h1, h2, h3, d => by
    have hSg := lSm_go (T := T) (n := n) g (op + 1)
    have hU := m_244 (E := 4 * g) (op := op) wt hn ⟨h3, by omega⟩ hSg (fun e L => lSm_inl) (fun lt d => m_sum wt hn g (op + 1) (by omega) (by omega) (by omega) d) d
    have hUg := lUn_go (T := T) (op := op) hSg
    have hP := m_243 wt hn hUg hU
    have hPg : ∀ s, lK s n → lGo isE n s (lPd T n (lSm T n g (op + 1)) op s) := fun s k => lC_E (hUg s k) (lLp_go (by decide) (by decide) hUg 150 _ (lGo_K k (hUg s k)))
    have hT := m_242 (U := lPd T n (lSm T n g (op + 1)) op) wt hn hPg hP
    rw [show d + 4 * (g + 1) + 5 = d + 4 * g + 9 by omega]
    exact hT
theorem s_241r {d c : Nat} {T : Int → Int} {n : Int} (wt : wTape T n) (hn : n ≤ 150) {R : Int → Nat → zH → Prop} {X : Nat → Nat → zH → Prop} {h : zH} {Q : Nat → zH → Prop} (mt : mTape h T n) (h4 : h 113 4 = 0) (h5 : h 113 5 = -1) (h7 : h 113 7 = 0) (h42 : h 113 42 = 0) (K : ∀ h', (∀ o j, ¬ mTs o j → ¬ mLz o j → h' o j = h o j) → mPs h' n (lRd T n 0).1 → (isOkS (lRd T n 0).1 → mStp h' (lRd T n 0).2) → Q c h') : zCl (d + 33) 242 [(2, 113)] c h (fun _ c h => zCl (d + 33) 224 [(2, 113)] c h (fun y c h => (y = 0 → Q c h) ∧ (y ≠ 0 → zCl (d + 33) 225 [(2, 113)] c h (fun y c h => (y = 0 → Q c h) ∧ (y ≠ 0 → zCl (d + 33) 232 [(2, 113), (0, 1), (0, h 113 4)] c h (fun _ c h => Q c h) X)) X)) X) X := by
  have w1 := wt.1
  have k0 : lK (.inr 0, []) n := ⟨⟨by decide, w1.1⟩, by simp⟩
  have hs := m_sum wt hn 7 0 (by decide) (by decide) (by decide) d
  have gg := lSm_go (T := T) (n := n) 7 0 (.inr 0, []) k0
  refine hs c _ X h 0 [] mt ⟨h5, h4, k0.1⟩ h7 k0 ⟨by rw [h42]; rfl, fun k hk => absurd hk (by simp)⟩ (fun h1 f1 p1 b1 g1 => ?_)
  have kk := lGo_K k0 gg
  unfold lRd at K
  unfold lK at kk
  refine m_224 p1 (fun ok => ⟨fun v => absurd v (by decide), fun _ => ?_⟩) (fun nok => ⟨fun _ => ?_, fun v => absurd rfl v⟩)
  · cases e : (lSm T n 7 0 (.inr 0, [])).1 with
    | inl f =>
      rw [e] at ok
      exact absurd ok (fun v => v)
    | inr b =>
      rw [e] at K p1 kk
      rw [e] at g1
      dsimp only at K kk
      obtain ⟨p15, p14, p1r⟩ := p1
      refine s_225 wt (mT_of f1 mt) (by omega) (fun q h2 f2 e2 => ⟨fun v => absurd v (by decide), fun _ => ?_⟩) (fun q h2 f2 e2 => ⟨fun _ => ?_, fun v => absurd rfl v⟩)
      · rw [p14] at q e2
        have hb := nBE (T := T) kk.1.2
        rw [if_pos q] at K
        refine s_232 (by rw [f2 _ _ (by omega)]; exact p15) (K _ (fun o j u v => ?_) ⟨?_, ?_, by show nB T n b ≠ -1; omega, by show (1 : Int) ≠ 0; decide⟩ (fun ok => absurd ok (fun v => v)))
        · rw [hw_ne (by unfold mTs at u; omega), hw_ne (by unfold mTs at u; omega), f2 o j (by unfold mTs at u; omega), f1 o j u v]
        · rw [hw_eq ⟨rfl, rfl⟩]
        · rw [hw_ne (by omega), hw_eq ⟨rfl, rfl⟩, e2]
      · rw [p14] at q
        rw [if_neg q] at K
        exact K h2 (fun o j u v => by rw [f2 o j (by unfold mTs at u; omega), f1 o j u v]) ⟨by rw [f2 _ _ (by omega)]; exact p15, e2, by show 0 ≤ n ∧ n ≤ n; omega⟩ (fun _ => mStp_fr (fun o j v => f2 o j (by unfold mLt at v; omega)) (g1 trivial))
  · cases e : (lSm T n 7 0 (.inr 0, [])).1 with
    | inr b =>
      rw [e] at nok
      exact absurd trivial nok
    | inl f =>
      rw [e] at K p1
      dsimp only at K
      exact K h1 f1 p1 (fun ok => absurd ok (fun v => v))
