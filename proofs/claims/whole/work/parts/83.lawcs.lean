/-! a law's text: products, sums, all of it, the class -/
/-- the loop of products -/
theorem c_93_8 {T : Int → Int} {n l pl : Int} (wt : wTape T n) (hn : n ≤ 150) (hl : l = 70 ∨ l = 74) {E : Nat} {op : Int} {U : lS → lS} (hUg : ∀ s, lK s n → lGo isE n s (U s)) {d : Nat} (hU : cSum T n l pl (d + E + 5) 94 op U) {c : Nat} {R : Int → Nat → zH → Prop} {X : Nat → Nat → zH → Prop} : ∀ (f k : Nat) (h : zH) (s : lS), k + f = 150 → cTape h T n → cPs h n pl s.1 → lK s n → (0 ≤ h l 3 ∧ h l 3 ≤ 150) → (isOkS s.1 → cStp l h s.2) → (∀ h', (∀ o j, ¬ cTs o j → ¬ cLs l o j → h' o j = h o j) → cPs h' n pl (lLp T n U 42 1008 47 1009 f s).1 → (0 ≤ h' l 3 ∧ h' l 3 ≤ 150) → (isOkS (lLp T n U 42 1008 47 1009 f s).1 → cStp l h' (lLp T n U 42 1008 47 1009 f s).2) → R 0 c h') → zWp (d + E + 6) 93 8 [(2, l), (2, 2), (0, op), (0, (k : Int)), (9, 0)] [] (zTS c h) (zQ 0 R X) := by
  intro f
  induction f with
  | zero =>
    intro k h s hk ct ps lk hb st K
    exact b_93_8 hl ⟨fun _ => K h (fun _ _ _ _ => rfl) ps hb st, fun w => by omega⟩
  | succ f ih =>
    intro k h s hk ct ps lk hb st K
    rw [lLp] at K
    refine b_93_8 hl ⟨fun w => by omega, fun _ => ?_⟩
    cases e : s.1 with
    | inl f =>
      rw [e] at ps K
      dsimp only at K
      rw [e] at K
      exact c_77 ps (fun ok => absurd ok (fun v => v)) (fun _ => ⟨fun _ => K h (fun _ _ _ _ => rfl) ps hb (fun ok => absurd ok (fun v => v)), fun v => absurd rfl v⟩)
    | inr a =>
      have lk' := lk
      unfold lK at lk'
      rw [e] at ps K lk' st
      dsimp only at K lk'
      have st' := st trivial
      have hbe := nBE (T := T) lk'.1.2
      have w1 := wt.1
      obtain ⟨p4, p6, p2, pr⟩ := ps
      refine c_77 (n := n) (pl := pl) (st := .inr a) ⟨p4, p6, p2, pr⟩ (fun _ => ⟨fun v => absurd v (by decide), fun _ => ?_⟩) (fun nok => absurd trivial nok)
      have step : ∀ (x : Int) (h1 : zH), (1006 ≤ x ∧ x ≤ 1011) → nB T n a < n → (∀ o j, ¬ cTs o j → h1 o j = h o j) → h1 2 2 = nB T n a + 1 → h1 2 4 = 0 → h1 2 6 = pl → (∀ h', (∀ o j, ¬ cTs o j → ¬ cLs l o j → h' o j = h o j) → cPs h' n pl (lLp T n U 42 1008 47 1009 f (lAp (U (.inr (nB T n a + 1), s.2)) x)).1 → (0 ≤ h' l 3 ∧ h' l 3 ≤ 150) → (isOkS (lLp T n U 42 1008 47 1009 f (lAp (U (.inr (nB T n a + 1), s.2)) x)).1 → cStp l h' (lLp T n U 42 1008 47 1009 f (lAp (U (.inr (nB T n a + 1), s.2)) x)).2) → R 0 c h') → zCl (d + E + 5) 94 [(2, l), (2, 2), (0, op)] c h1 (fun _ c h => zCl (d + E + 5) 96 [(2, l), (0, x)] c h (fun _ c h => zWp (d + E + 6) 93 8 [(2, l), (2, 2), (0, op), (0, w32 ((k : Int) + 1)), (9, 0)] [] (zTS c h) (zQ 0 R X)) X) X := by
        intro x h1 hx q f1 e2 e4 e6 KK
        have k1 : lK (.inr (nB T n a + 1), s.2) n := by
          show (0 ≤ nB T n a + 1 ∧ nB T n a + 1 ≤ n) ∧ (s.2.length : Int) ≤ nB T n a + 1
          omega
        have g1 := hUg _ k1
        refine hU c _ X h1 (nB T n a + 1) s.2 (cTape_fr f1 ct) ⟨e4, e6, e2, k1.1⟩ k1 (cStp_fr (fun o j v => f1 o j (by unfold cLs at v; unfold cTs; omega)) st') (fun h2 f2 p2' b2 g2 => s_96 hl b2 (fun h3 f3 b3 g3 => ?_))
        rw [w32_s (by omega)]
        have f3' : ∀ o j, ¬ cTs o j → ¬ cLs l o j → h3 o j = h o j := fun o j u v => by rw [f3 o j v, f2 o j u v, f1 o j u]
        have ct3 : cTape h3 T n := ⟨by rw [f3' _ _ (by unfold cTs; omega) (by unfold cLs; omega)]; exact ct.1, fun k u v => by rw [f3' _ _ (by unfold cTs; omega) (by unfold cLs; omega)]; exact ct.2 k u v⟩
        have len : isOkS (U (.inr (nB T n a + 1), s.2)).1 → ((U (.inr (nB T n a + 1), s.2)).2.length : Int) < 150 ∧ lK (lAp (U (.inr (nB T n a + 1), s.2)) x) n := by
          intro ok
          unfold lGo at g1
          cases e1 : (U (.inr (nB T n a + 1), s.2)).1 with
          | inl f =>
            rw [e1] at ok
            exact absurd ok (fun v => v)
          | inr b =>
            rw [e1] at g1
            obtain ⟨a0, M, q1, q2, q3, q4, q5⟩ := g1
            have q1 := Sum.inr.inj (show (Sum.inr (nB T n a + 1) : (Int × Int) ⊕ Int) = Sum.inr a0 from q1)
            dsimp only at q2
            unfold lK lAp
            rw [e1]
            dsimp only
            rw [q2, List.length_append, List.length_append, List.length_append]
            simp only [List.length_cons, List.length_nil]
            omega
        have k3 : lK (lAp (U (.inr (nB T n a + 1), s.2)) x) n := by
          by_cases ok : isOkS (U (.inr (nB T n a + 1), s.2)).1
          · exact (len ok).2
          · unfold lGo at g1
            unfold lK lAp
            cases e1 : (U (.inr (nB T n a + 1), s.2)).1 with
            | inl f =>
              rw [e1] at g1
              exact g1
            | inr b =>
              rw [e1] at ok
              exact absurd trivial ok
        refine ih (k + 1) h3 (lAp (U (.inr (nB T n a + 1), s.2)) x) (by omega) ct3 ?_ k3 b3 (fun ok => ?_) (fun h' f' p' b' g' => KK h' (fun o j u v => by rw [f' o j u v, f3' o j u v]) p' b' g')
        · exact cPs_fr ⟨f3 _ _ (by unfold cLs; omega), f3 _ _ (by unfold cLs; omega), f3 _ _ (by unfold cLs; omega)⟩ p2'
        · exact g3 _ (g2 ok) (by have := (len ok).1; omega)
      refine s_82 wt (by decide) ct (by omega) (fun q h1 f1 e1 => ⟨fun v => absurd v (by decide), fun _ => ?_⟩) (fun q h1 f1 e1 => ⟨fun _ => ?_, fun v => absurd rfl v⟩)
      · rw [p2] at q e1
        rw [if_pos q] at K
        exact step 1008 h1 (by decide) q.1 (fun o j v => f1 o j (by have := cTs2 v; omega)) e1 (by rw [f1 _ _ (by omega)]; exact p4) (by rw [f1 _ _ (by omega)]; exact p6) K
      · rw [p2] at q e1
        rw [if_neg q] at K
        have f1' : ∀ o j, ¬ cTs o j → h1 o j = h o j := fun o j v => f1 o j (by have := cTs2 v; omega)
        refine s_82 wt (by decide) (cTape_fr f1' ct) (by omega) (fun q2 h2 f2 e2 => ⟨fun v => absurd v (by decide), fun _ => ?_⟩) (fun q2 h2 f2 e2 => ⟨fun _ => ?_, fun v => absurd rfl v⟩)
        · rw [e1, nB_i lk'.1.2] at q2 e2
          rw [if_pos q2] at K
          exact step 1009 h2 (by decide) q2.1 (fun o j v => by rw [f2 o j (by have := cTs2 v; omega), f1' o j v]) e2 (by rw [f2 _ _ (by omega), f1 _ _ (by omega)]; exact p4) (by rw [f2 _ _ (by omega), f1 _ _ (by omega)]; exact p6) K
        · rw [e1, nB_i lk'.1.2] at q2 e2
          rw [if_neg q2] at K
          refine K h2 (fun o j u v => by rw [f2 o j (by have := cTs2 u; omega), f1' o j u]) ⟨by rw [f2 _ _ (by omega), f1 _ _ (by omega)]; exact p4, by rw [f2 _ _ (by omega), f1 _ _ (by omega)]; exact p6, e2, by show 0 ≤ nB T n a ∧ nB T n a ≤ n; omega⟩ ?_ (fun _ => ?_)
          · rw [f2 _ _ (by omega), f1 _ _ (by omega)]
            exact hb
          · exact cStp_fr (fun o j v => by rw [f2 o j (by unfold cLs at v; omega), f1 o j (by unfold cLs at v; omega)]) st'
theorem c_93 {T : Int → Int} {n l pl : Int} (wt : wTape T n) (hn : n ≤ 150) (hl : l = 70 ∨ l = 74) {E : Nat} {op : Int} {U : lS → lS} (hUg : ∀ s, lK s n → lGo isE n s (U s)) {d : Nat} (hU : cSum T n l pl (d + E + 5) 94 op U) : cSum T n l pl (d + E + 6) 93 op (fun s => lLp T n U 42 1008 47 1009 150 (U s)) := by
  intro c R X h a L ct ps lk st K
  refine b_93 hl (hU c _ X h a L ct ps lk st (fun h1 f1 p1 b1 g1 => ?_))
  have ct1 : cTape h1 T n := ⟨by rw [f1 _ _ (by unfold cTs; omega) (by unfold cLs; omega)]; exact ct.1, fun k u v => by rw [f1 _ _ (by unfold cTs; omega) (by unfold cLs; omega)]; exact ct.2 k u v⟩
  exact c_93_8 wt hn hl hUg hU 150 0 h1 (U (.inr a, L)) (by omega) ct1 p1 (lGo_K lk (hUg _ lk)) b1 g1 (fun h' f' p' b' g' => K h' (fun o j u v => by rw [f' o j u v, f1 o j u v]) p' b' g')
/-- the loop of sums -/
theorem c_92_8 {T : Int → Int} {n l pl : Int} (wt : wTape T n) (hn : n ≤ 150) (hl : l = 70 ∨ l = 74) {E : Nat} {op : Int} {U : lS → lS} (hUg : ∀ s, lK s n → lGo isE n s (U s)) {d : Nat} (hU : cSum T n l pl (d + E + 6) 93 op U) {c : Nat} {R : Int → Nat → zH → Prop} {X : Nat → Nat → zH → Prop} : ∀ (f k : Nat) (h : zH) (s : lS), k + f = 150 → cTape h T n → cPs h n pl s.1 → lK s n → (0 ≤ h l 3 ∧ h l 3 ≤ 150) → (isOkS s.1 → cStp l h s.2) → (∀ h', (∀ o j, ¬ cTs o j → ¬ cLs l o j → h' o j = h o j) → cPs h' n pl (lLp T n U 43 1006 45 1007 f s).1 → (0 ≤ h' l 3 ∧ h' l 3 ≤ 150) → (isOkS (lLp T n U 43 1006 45 1007 f s).1 → cStp l h' (lLp T n U 43 1006 45 1007 f s).2) → R 0 c h') → zWp (d + E + 7) 92 8 [(2, l), (2, 2), (0, op), (0, (k : Int)), (9, 0)] [] (zTS c h) (zQ 0 R X) := by
  intro f
  induction f with
  | zero =>
    intro k h s hk ct ps lk hb st K
    exact b_92_8 hl ⟨fun _ => K h (fun _ _ _ _ => rfl) ps hb st, fun w => by omega⟩
  | succ f ih =>
    intro k h s hk ct ps lk hb st K
    rw [lLp] at K
    refine b_92_8 hl ⟨fun w => by omega, fun _ => ?_⟩
    cases e : s.1 with
    | inl f =>
      rw [e] at ps K
      dsimp only at K
      rw [e] at K
      exact c_77 ps (fun ok => absurd ok (fun v => v)) (fun _ => ⟨fun _ => K h (fun _ _ _ _ => rfl) ps hb (fun ok => absurd ok (fun v => v)), fun v => absurd rfl v⟩)
    | inr a =>
      have lk' := lk
      unfold lK at lk'
      rw [e] at ps K lk' st
      dsimp only at K lk'
      have st' := st trivial
      have hbe := nBE (T := T) lk'.1.2
      have w1 := wt.1
      obtain ⟨p4, p6, p2, pr⟩ := ps
      refine c_77 (n := n) (pl := pl) (st := .inr a) ⟨p4, p6, p2, pr⟩ (fun _ => ⟨fun v => absurd v (by decide), fun _ => ?_⟩) (fun nok => absurd trivial nok)
      have step : ∀ (x : Int) (h1 : zH), (1006 ≤ x ∧ x ≤ 1011) → nB T n a < n → (∀ o j, ¬ cTs o j → h1 o j = h o j) → h1 2 2 = nB T n a + 1 → h1 2 4 = 0 → h1 2 6 = pl → (∀ h', (∀ o j, ¬ cTs o j → ¬ cLs l o j → h' o j = h o j) → cPs h' n pl (lLp T n U 43 1006 45 1007 f (lAp (U (.inr (nB T n a + 1), s.2)) x)).1 → (0 ≤ h' l 3 ∧ h' l 3 ≤ 150) → (isOkS (lLp T n U 43 1006 45 1007 f (lAp (U (.inr (nB T n a + 1), s.2)) x)).1 → cStp l h' (lLp T n U 43 1006 45 1007 f (lAp (U (.inr (nB T n a + 1), s.2)) x)).2) → R 0 c h') → zCl (d + E + 6) 93 [(2, l), (2, 2), (0, op)] c h1 (fun _ c h => zCl (d + E + 6) 96 [(2, l), (0, x)] c h (fun _ c h => zWp (d + E + 7) 92 8 [(2, l), (2, 2), (0, op), (0, w32 ((k : Int) + 1)), (9, 0)] [] (zTS c h) (zQ 0 R X)) X) X := by
        intro x h1 hx q f1 e2 e4 e6 KK
        have k1 : lK (.inr (nB T n a + 1), s.2) n := by
          show (0 ≤ nB T n a + 1 ∧ nB T n a + 1 ≤ n) ∧ (s.2.length : Int) ≤ nB T n a + 1
          omega
        have g1 := hUg _ k1
        refine hU c _ X h1 (nB T n a + 1) s.2 (cTape_fr f1 ct) ⟨e4, e6, e2, k1.1⟩ k1 (cStp_fr (fun o j v => f1 o j (by unfold cLs at v; unfold cTs; omega)) st') (fun h2 f2 p2' b2 g2 => s_96 hl b2 (fun h3 f3 b3 g3 => ?_))
        rw [w32_s (by omega)]
        have f3' : ∀ o j, ¬ cTs o j → ¬ cLs l o j → h3 o j = h o j := fun o j u v => by rw [f3 o j v, f2 o j u v, f1 o j u]
        have ct3 : cTape h3 T n := ⟨by rw [f3' _ _ (by unfold cTs; omega) (by unfold cLs; omega)]; exact ct.1, fun k u v => by rw [f3' _ _ (by unfold cTs; omega) (by unfold cLs; omega)]; exact ct.2 k u v⟩
        have len : isOkS (U (.inr (nB T n a + 1), s.2)).1 → ((U (.inr (nB T n a + 1), s.2)).2.length : Int) < 150 ∧ lK (lAp (U (.inr (nB T n a + 1), s.2)) x) n := by
          intro ok
          unfold lGo at g1
          cases e1 : (U (.inr (nB T n a + 1), s.2)).1 with
          | inl f =>
            rw [e1] at ok
            exact absurd ok (fun v => v)
          | inr b =>
            rw [e1] at g1
            obtain ⟨a0, M, q1, q2, q3, q4, q5⟩ := g1
            have q1 := Sum.inr.inj (show (Sum.inr (nB T n a + 1) : (Int × Int) ⊕ Int) = Sum.inr a0 from q1)
            dsimp only at q2
            unfold lK lAp
            rw [e1]
            dsimp only
            rw [q2, List.length_append, List.length_append, List.length_append]
            simp only [List.length_cons, List.length_nil]
            omega
        have k3 : lK (lAp (U (.inr (nB T n a + 1), s.2)) x) n := by
          by_cases ok : isOkS (U (.inr (nB T n a + 1), s.2)).1
          · exact (len ok).2
          · unfold lGo at g1
            unfold lK lAp
            cases e1 : (U (.inr (nB T n a + 1), s.2)).1 with
            | inl f =>
              rw [e1] at g1
              exact g1
            | inr b =>
              rw [e1] at ok
              exact absurd trivial ok
        refine ih (k + 1) h3 (lAp (U (.inr (nB T n a + 1), s.2)) x) (by omega) ct3 ?_ k3 b3 (fun ok => ?_) (fun h' f' p' b' g' => KK h' (fun o j u v => by rw [f' o j u v, f3' o j u v]) p' b' g')
        · exact cPs_fr ⟨f3 _ _ (by unfold cLs; omega), f3 _ _ (by unfold cLs; omega), f3 _ _ (by unfold cLs; omega)⟩ p2'
        · exact g3 _ (g2 ok) (by have := (len ok).1; omega)
      refine s_82 wt (by decide) ct (by omega) (fun q h1 f1 e1 => ⟨fun v => absurd v (by decide), fun _ => ?_⟩) (fun q h1 f1 e1 => ⟨fun _ => ?_, fun v => absurd rfl v⟩)
      · rw [p2] at q e1
        rw [if_pos q] at K
        exact step 1006 h1 (by decide) q.1 (fun o j v => f1 o j (by have := cTs2 v; omega)) e1 (by rw [f1 _ _ (by omega)]; exact p4) (by rw [f1 _ _ (by omega)]; exact p6) K
      · rw [p2] at q e1
        rw [if_neg q] at K
        have f1' : ∀ o j, ¬ cTs o j → h1 o j = h o j := fun o j v => f1 o j (by have := cTs2 v; omega)
        refine s_82 wt (by decide) (cTape_fr f1' ct) (by omega) (fun q2 h2 f2 e2 => ⟨fun v => absurd v (by decide), fun _ => ?_⟩) (fun q2 h2 f2 e2 => ⟨fun _ => ?_, fun v => absurd rfl v⟩)
        · rw [e1, nB_i lk'.1.2] at q2 e2
          rw [if_pos q2] at K
          exact step 1007 h2 (by decide) q2.1 (fun o j v => by rw [f2 o j (by have := cTs2 v; omega), f1' o j v]) e2 (by rw [f2 _ _ (by omega), f1 _ _ (by omega)]; exact p4) (by rw [f2 _ _ (by omega), f1 _ _ (by omega)]; exact p6) K
        · rw [e1, nB_i lk'.1.2] at q2 e2
          rw [if_neg q2] at K
          refine K h2 (fun o j u v => by rw [f2 o j (by have := cTs2 u; omega), f1' o j u]) ⟨by rw [f2 _ _ (by omega), f1 _ _ (by omega)]; exact p4, by rw [f2 _ _ (by omega), f1 _ _ (by omega)]; exact p6, e2, by show 0 ≤ nB T n a ∧ nB T n a ≤ n; omega⟩ ?_ (fun _ => ?_)
          · rw [f2 _ _ (by omega), f1 _ _ (by omega)]
            exact hb
          · exact cStp_fr (fun o j v => by rw [f2 o j (by unfold cLs at v; omega), f1 o j (by unfold cLs at v; omega)]) st'
theorem c_92 {T : Int → Int} {n l pl : Int} (wt : wTape T n) (hn : n ≤ 150) (hl : l = 70 ∨ l = 74) {E : Nat} {op : Int} {U : lS → lS} (hUg : ∀ s, lK s n → lGo isE n s (U s)) {d : Nat} (hU : cSum T n l pl (d + E + 6) 93 op U) : cSum T n l pl (d + E + 7) 92 op (fun s => lLp T n U 43 1006 45 1007 150 (U s)) := by
  intro c R X h a L ct ps lk st K
  refine b_92 hl (hU c _ X h a L ct ps lk st (fun h1 f1 p1 b1 g1 => ?_))
  have ct1 : cTape h1 T n := ⟨by rw [f1 _ _ (by unfold cTs; omega) (by unfold cLs; omega)]; exact ct.1, fun k u v => by rw [f1 _ _ (by unfold cTs; omega) (by unfold cLs; omega)]; exact ct.2 k u v⟩
  exact c_92_8 wt hn hl hUg hU 150 0 h1 (U (.inr a, L)) (by omega) ct1 p1 (lGo_K lk (hUg _ lk)) b1 g1 (fun h' f' p' b' g' => K h' (fun o j u v => by rw [f' o j u v, f1 o j u v]) p' b' g')
theorem c_sum {T : Int → Int} {n l pl : Int} (wt : wTape T n) (hn : n ≤ 150) (hl : l = 70 ∨ l = 74) : ∀ (g : Nat) (op : Int), 1 ≤ g → op + g = 7 → 0 ≤ op → ∀ d, cSum T n l pl (d + 5 * g + 2) 92 op (lSm T n g op)
  | 0, op, h1, _, _, _ => by omega
  | g + 1, op, h1, h2, h3, d => by
    have hSg := lSm_go (T := T) (n := n) g (op + 1)
    have hU := c_94 (E := 5 * g) (op := op) (pl := pl) wt hn hl ⟨h3, by omega⟩ hSg (fun e L => lSm_inl) (fun lt d => c_sum wt hn hl g (op + 1) (by omega) (by omega) (by omega) d) d
    have hUg := lUn_go (T := T) (op := op) hSg
    have hP := c_93 wt hn hl hUg hU
    have hPg : ∀ s, lK s n → lGo isE n s (lPd T n (lSm T n g (op + 1)) op s) := fun s k => lC_E (hUg s k) (lLp_go (by decide) (by decide) hUg 150 _ (lGo_K k (hUg s k)))
    have hT := c_92 (U := lPd T n (lSm T n g (op + 1)) op) wt hn hl hPg hP
    rw [show d + 5 * (g + 1) + 2 = d + 5 * g + 7 by omega]
    exact hT
theorem s_91 {d c : Nat} {T : Int → Int} {n l : Int} (wt : wTape T n) (hn : n ≤ 150) (hl : l = 70 ∨ l = 74) {R : Int → Nat → zH → Prop} {X : Nat → Nat → zH → Prop} {h : zH} (ct : cTape h T n) (ha : 0 ≤ h 2 2 ∧ h 2 2 ≤ n) (h4 : h 2 4 = 0) (K : ∀ h', (∀ o j, ¬ cTs o j → ¬ cLs l o j → h' o j = h o j) → cPs h' n (h 2 6) (lRd T n (h 2 2)).1 → (isOkS (lRd T n (h 2 2)).1 → cLaw l h' (lF (lRd T n (h 2 2)).2) (lRd T n (h 2 2)).2.length) → R 0 c h') : zCl (d + 38) 91 [(2, l), (2, 2)] c h R X := by
  have w1 := wt.1
  refine b_91 (d := d + 30) hl ?_
  have k0 : lK (.inr (h 2 2), []) n := ⟨ha, by simp; omega⟩
  have hs := c_sum (l := l) (pl := h 2 6) wt hn hl 7 0 (by decide) (by decide) (by decide) d
  have gg := lSm_go (T := T) (n := n) 7 0 (.inr (h 2 2), []) k0
  refine hs c _ X (hw h l 3 0) (h 2 2) [] (ctw (by omega) ct) ⟨by rw [hw_ne (by omega)]; exact h4, by rw [hw_ne (by omega)], by rw [hw_ne (by omega)], ha⟩ k0 ⟨by rw [hw_eq ⟨rfl, rfl⟩]; rfl, fun k hk => absurd hk (by simp)⟩ (fun h1 f1 p1 b1 g1 => ?_)
  have f1' : ∀ o j, ¬ cTs o j → ¬ cLs l o j → h1 o j = h o j := fun o j u v => by rw [f1 o j u v, hw_ne (by unfold cLs at v; omega)]
  have ct1 : cTape h1 T n := ⟨by rw [f1' _ _ (by unfold cTs; omega) (by unfold cLs; omega)]; exact ct.1, fun k u v => by rw [f1' _ _ (by unfold cTs; omega) (by unfold cLs; omega)]; exact ct.2 k u v⟩
  have kk := lGo_K k0 gg
  unfold lRd at K
  unfold lK at kk
  cases e : (lSm T n 7 0 (.inr (h 2 2), [])).1 with
  | inl f =>
    rw [e] at K p1
    dsimp only at K
    exact s_65u (by have := p1.1; have := p1.2.2.1; omega) ⟨fun _ => K h1 f1' p1 (fun ok => absurd ok (fun v => v)), fun v => absurd rfl v⟩
  | inr b =>
    rw [e] at K p1 kk
    rw [e] at g1
    dsimp only at K kk
    obtain ⟨p11, p12, p13, p14⟩ := p1
    refine s_65 wt ct1 (by omega) p11 (fun q h2 f2 e2 => ⟨fun v => absurd v (by decide), fun _ => ?_⟩) (fun q h2 f2 e2 => ⟨fun _ => ?_, fun v => absurd rfl v⟩)
    · rw [p13] at q e2
      have hb := nBE (T := T) kk.1.2
      rw [if_pos q] at K
      have f2' : ∀ o j, ¬ cTs o j → h2 o j = h1 o j := fun o j v => f2 o j (by have := cTs2 v; omega)
      refine s_98f wt (cTape_fr f2' ct1) (by omega) (by rw [f2 _ _ (by omega)]; exact p11) (fun h3 f3 g4 g6 g2 => K h3 (fun o j u v => by rw [f3 o j u, f2' o j u, f1' o j u v]) ⟨g4, ?_, by show (1 : Int) ≠ 0; decide, g2⟩ (fun ok => absurd ok (fun v => v)))
      rw [g6, e2, nB_i kk.1.2]
    · rw [p13] at q
      rw [if_neg q] at K
      refine K h2 (fun o j u v => by rw [f2 o j (by have := cTs2 u; omega), f1' o j u v]) ⟨by rw [f2 _ _ (by omega)]; exact p11, by rw [f2 _ _ (by omega)]; exact p12, e2, by show 0 ≤ n ∧ n ≤ n; omega⟩ (fun _ => ?_)
      have s1 := g1 trivial
      refine ⟨by rw [f2 _ _ (by omega)]; exact s1.1, fun k u v => ?_⟩
      have v' : k < ((lSm T n 7 0 (.inr (h 2 2), [])).2.length : Int) := v
      have := s1.2 k.toNat (by omega)
      rw [Int.toNat_of_nonneg u] at this
      rw [f2 _ _ (by omega)]
      exact this
