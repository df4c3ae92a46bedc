/-! a law's text: the class -/
theorem gd_l {L M : List Int} {k : Nat} (h : k < L.length) : (L ++ M).getD k 0 = L.getD k 0 := by
  rw [List.getD_eq_getElem?_getD, List.getD_eq_getElem?_getD, List.getElem?_append_left h]
theorem gd_n {L : List Int} {x : Int} : (L ++ [x]).getD L.length 0 = x := by
  rw [List.getD_eq_getElem?_getD, List.getElem?_append_right (Nat.le_refl _)]
  simp
theorem rdN_i {T : Int → Int} {n lo hi a : Int} (h : a ≤ n) : rdN T n lo hi (.inr (nB T n a)) = rdN T n lo hi (.inr a) := by
  unfold rdN
  dsimp only
  rw [nF_i h, nE_i h, nV_i h]
def cStp (l : Int) (h : zH) (L : List Int) : Prop := h l 3 = (L.length : Int) ∧ ∀ k : Nat, k < L.length → h (l + 1) k = L.getD k 0
def cLs (l o j : Int) : Prop := (o = l ∧ j = 3) ∨ o = l + 1
theorem cStp_fr {l : Int} {h h' : zH} {L : List Int} (fr : ∀ o j, cLs l o j → h' o j = h o j) (w : cStp l h L) : cStp l h' L :=
  ⟨by rw [fr _ _ (Or.inl ⟨rfl, rfl⟩)]; exact w.1, fun k hk => by rw [fr _ _ (Or.inr rfl)]; exact w.2 k hk⟩
/-- what a method of the law's text does, called with no fault so far -/
def cSum (T : Int → Int) (n l pl : Int) (D ν : Nat) (op : Int) (F : lS → lS) : Prop := ∀ (c : Nat) (R : Int → Nat → zH → Prop) (X : Nat → Nat → zH → Prop) (h : zH) (a : Int) (L : List Int), cTape h T n → cPs h n pl (.inr a) → lK (.inr a, L) n → cStp l h L → (∀ h', (∀ o j, ¬ cTs o j → ¬ cLs l o j → h' o j = h o j) → cPs h' n pl (F (.inr a, L)).1 → (0 ≤ h' l 3 ∧ h' l 3 ≤ 150) → (isOkS (F (.inr a, L)).1 → cStp l h' (F (.inr a, L)).2) → R 0 c h') → zCl D ν [(2, l), (2, 2), (0, op)] c h R X
theorem s_96 {d c : Nat} {h : zH} {R : Int → Nat → zH → Prop} {X : Nat → Nat → zH → Prop} {l x : Int} (hl : l = 70 ∨ l = 74) (hb : 0 ≤ h l 3 ∧ h l 3 ≤ 150) (K : ∀ h', (∀ o j, ¬ cLs l o j → h' o j = h o j) → (0 ≤ h' l 3 ∧ h' l 3 ≤ 150) → (∀ L, cStp l h L → L.length < 150 → cStp l h' (L ++ [x])) → R 0 c h') : zCl d 96 [(2, l), (0, x)] c h R X := by
  refine b_96 hl ⟨fun w => K h (fun _ _ _ => rfl) hb (fun L a b => by have := a.1; omega), fun w => ⟨by omega, ?_⟩⟩
  rw [hw_ne (by omega), w32_e (by omega) (by omega)]
  refine K _ (fun o j a => by rw [hw_ne (by unfold cLs at a; omega), hw_ne (by unfold cLs at a; omega)]) (by rw [hw_eq ⟨rfl, rfl⟩]; omega) (fun L a b => ⟨?_, fun k hk => ?_⟩)
  · rw [hw_eq ⟨rfl, rfl⟩, a.1]
    simp
  · rw [hw_ne (by omega)]
    have a1 := a.1
    simp at hk
    by_cases e : (k : Int) = h l 3
    · have ek : k = L.length := by omega
      rw [hw_eq ⟨rfl, e⟩, ek, gd_n]
    · rw [hw_ne (by omega), a.2 k (by omega), gd_l (by omega)]
theorem s_82 {d c : Nat} {T : Int → Int} {n : Int} (wt : wTape T n) {R : Int → Nat → zH → Prop} {X : Nat → Nat → zH → Prop} {h : zH} {ch : Int} (hc : 33 ≤ ch) (ct : cTape h T n) (ha : 0 ≤ h 2 2 ∧ h 2 2 ≤ n) (k1 : nB T n (h 2 2) < n ∧ T (nB T n (h 2 2)) = ch → ∀ h', (∀ o j, ¬ (o = 2 ∧ j = 2) → h' o j = h o j) → h' 2 2 = nB T n (h 2 2) + 1 → R 1 c h') (k0 : ¬ (nB T n (h 2 2) < n ∧ T (nB T n (h 2 2)) = ch) → ∀ h', (∀ o j, ¬ (o = 2 ∧ j = 2) → h' o j = h o j) → h' 2 2 = nB T n (h 2 2) → R 0 c h') : zCl (d + 1) 82 [(2, 2), (0, ch)] c h R X := by
  have w1 := wt.1
  have hb := nBE (T := T) ha.2
  refine b_82 (s_66 wt ct ha (fun h1 f1 e1 => ?_))
  rw [show run isB T n (h 2 2) = nB T n (h 2 2) from rfl] at e1 ⊢
  by_cases q : nB T n (h 2 2) < n
  · rw [if_pos q]
    refine ⟨fun w => ?_, fun w => k0 (fun v => w v.2) h1 f1 e1⟩
    rw [e1, w32_e (by omega) (by omega)]
    exact k1 ⟨q, w⟩ _ (fun o j v => by rw [hw_ne (by omega), f1 o j v]) (hw_eq ⟨rfl, rfl⟩)
  · rw [if_neg q]
    exact ⟨fun w => by omega, fun _ => k0 (fun v => q v.1) h1 f1 e1⟩
theorem s_98f {d c : Nat} {T : Int → Int} {n : Int} (wt : wTape T n) {R : Int → Nat → zH → Prop} {X : Nat → Nat → zH → Prop} {h : zH} {kk : Int} (ct : cTape h T n) (ha : 0 ≤ h 2 2 ∧ h 2 2 ≤ n) (h4 : h 2 4 = 0) (k : ∀ h', (∀ o j, ¬ cTs o j → h' o j = h o j) → h' 2 4 = kk → h' 2 6 = nB T n (h 2 2) → (0 ≤ h' 2 2 ∧ h' 2 2 ≤ n) → R 0 c h') : zCl (d + 1) 98 [(2, 2), (0, kk)] c h R X := by
  have hb := nBE (T := T) ha.2
  refine b_98 (s_66 wt ct ha (fun h1 f1 e1 => s_72 (fun w => absurd (by rw [f1 _ _ (by omega)]; exact h4) w) (fun _ => ?_)))
  rw [show run isB T n (h 2 2) = nB T n (h 2 2) from rfl] at e1
  refine k _ (fun o j a => by rw [hw_ne (by unfold cTs at a; omega), hw_ne (by unfold cTs at a; omega), f1 o j (by unfold cTs at a; omega)]) ?_ ?_ ?_
  · rw [hw_ne (by omega), hw_eq ⟨rfl, rfl⟩]
  · rw [hw_eq ⟨rfl, rfl⟩, e1]
  · rw [hw_ne (by omega), hw_ne (by omega), e1]
    omega
theorem lMin_i {T : Int → Int} {n a : Int} : lMin T n a ↔ (zTl 15 = wE T n a - nB T n a ∧ ∀ i : Int, 0 ≤ i → i < zTl 15 → T (nB T n a + i) = zTc 15 i) := by
  rw [show zTl 15 = 7 from rfl]
  constructor
  · rintro ⟨h, h0, h1, h2, h3, h4, h5, h6⟩
    refine ⟨by omega, fun i a b => ?_⟩
    have : i = 0 ∨ i = 1 ∨ i = 2 ∨ i = 3 ∨ i = 4 ∨ i = 5 ∨ i = 6 := by omega
    rcases this with e | e | e | e | e | e | e <;> subst e
    · rw [Int.add_zero, h0]; rfl
    · rw [h1]; rfl
    · rw [h2]; rfl
    · rw [h3]; rfl
    · rw [h4]; rfl
    · rw [h5]; rfl
    · rw [h6]; rfl
  · rintro ⟨h, hh⟩
    refine ⟨by omega, ?_, ?_, ?_, ?_, ?_, ?_, ?_⟩
    · have := hh 0 (by decide) (by decide)
      rw [Int.add_zero] at this
      rw [this]; rfl
    · rw [hh 1 (by decide) (by decide)]; rfl
    · rw [hh 2 (by decide) (by decide)]; rfl
    · rw [hh 3 (by decide) (by decide)]; rfl
    · rw [hh 4 (by decide) (by decide)]; rfl
    · rw [hh 5 (by decide) (by decide)]; rfl
    · rw [hh 6 (by decide) (by decide)]; rfl
theorem s_101 {d c : Nat} {T : Int → Int} {n : Int} (wt : wTape T n) {R : Int → Nat → zH → Prop} {X : Nat → Nat → zH → Prop} {h : zH} {a : Int} (ct : cTape h T n) (ha : 0 ≤ a ∧ a ≤ n) (h3 : h 2 3 = nB T n a) (h2 : h 2 2 = wE T n a) (k : R (lFa T n a) c h) : zCl (d + 1) 101 [(2, 2)] c h R X := by
  have hbw := nBW (T := T) ha.2
  have lets : ∀ j : Int, nB T n a ≤ j → j < wE T n a → 97 ≤ T j ∧ T j ≤ 122 := fun j x y => isS_t.mp (run_in (p := isS) (T := T) (n := n) (n - nB T n a).toNat (nB T n a) (by omega) j x y)
  have hbe : 0 ≤ nB T n a ∧ nB T n a ≤ wE T n a ∧ wE T n a ≤ n := by omega
  unfold lFa fOf at k
  refine b_101 (s_70 wt (by decide) ct h3 h2 hbe (fun e1 => ⟨fun q => absurd q (by decide), fun _ => ?_⟩) (fun e1 => ⟨fun _ => ?_, fun q => absurd rfl q⟩))
  · rw [if_pos (lMin_i.mpr e1)] at k
    exact k
  rw [if_neg (fun v => e1 (lMin_i.mp v))] at k
  refine s_70h wt (wOk_j (by decide) (by decide) (by decide)) ct h3 h2 hbe lets (fun e1 => ⟨fun q => absurd q (by decide), fun _ => ?_⟩) (fun e1 => ⟨fun _ => ?_, fun q => absurd rfl q⟩)
  · rw [if_pos e1] at k
    exact k
  rw [if_neg e1] at k
  refine s_70h wt (wOk_j (by decide) (by decide) (by decide)) ct h3 h2 hbe lets (fun e1 => ⟨fun q => absurd q (by decide), fun _ => ?_⟩) (fun e1 => ⟨fun _ => ?_, fun q => absurd rfl q⟩)
  · rw [if_pos e1] at k
    exact k
  rw [if_neg e1] at k
  refine s_70h wt (wOk_j (by decide) (by decide) (by decide)) ct h3 h2 hbe lets (fun e1 => ⟨fun q => absurd q (by decide), fun _ => ?_⟩) (fun e1 => ⟨fun _ => ?_, fun q => absurd rfl q⟩)
  · rw [if_pos e1] at k
    exact k
  rw [if_neg e1] at k
  refine s_70h wt (wOk_j (by decide) (by decide) (by decide)) ct h3 h2 hbe lets (fun e1 => ⟨fun q => absurd q (by decide), fun _ => ?_⟩) (fun e1 => ⟨fun _ => ?_, fun q => absurd rfl q⟩)
  · rw [if_pos e1] at k
    exact k
  rw [if_neg e1] at k
  refine s_70h wt (wOk_j (by decide) (by decide) (by decide)) ct h3 h2 hbe lets (fun e1 => ⟨fun q => absurd q (by decide), fun _ => ?_⟩) (fun e1 => ⟨fun _ => ?_, fun q => absurd rfl q⟩)
  · rw [if_pos e1] at k
    exact k
  rw [if_neg e1] at k
  exact k
/-- a pair behind its word -/
theorem c_100 {T : Int → Int} {n l pl : Int} (wt : wTape T n) (hn : n ≤ 150) (hl : l = 70 ∨ l = 74) {D : Nat} {op : Int} (hop : 0 ≤ op ∧ op ≤ 6) {S : lS → lS} (hSg : ∀ s, lK s n → lGo isE n s (S s)) (hSi : ∀ e L, S (.inl e, L) = (.inl e, L)) (hS : op < 6 → cSum T n l pl (D + 2) 92 (op + 1) S) {c : Nat} {R : Int → Nat → zH → Prop} {X : Nat → Nat → zH → Prop} {h : zH} {a x : Int} {L : List Int} (hx : 1006 ≤ x ∧ x ≤ 1011) (ct : cTape h T n) (ps : cPs h n pl (.inr (wE T n a))) (h3 : h 2 3 = nB T n a) (ha : 0 ≤ a ∧ a ≤ n) (hw0 : 1 ≤ wE T n a - nB T n a) (lk : (L.length : Int) ≤ a) (st : cStp l h L) (K : ∀ h', (∀ o j, ¬ cTs o j → ¬ cLs l o j → h' o j = h o j) → cPs h' n pl (lPr T n S op x a L).1 → (0 ≤ h' l 3 ∧ h' l 3 ≤ 150) → (isOkS (lPr T n S op x a L).1 → cStp l h' (lPr T n S op x a L).2) → R 0 c h') : zCl (D + 3) 100 [(2, l), (2, 2), (0, op), (0, x)] c h R X := by
  have hbw := nBW (T := T) ha.2
  have st1 := st.1
  refine b_100 hl ⟨fun lt => ?_, fun ge => ?_⟩
  · have hS' := hS lt
    unfold lPr at K
    rw [if_neg (by omega)] at K
    rw [w32_e (by omega) (by omega)]
    -- the second tail
    have T2 : ∀ (s2 : lS) (h5 : zH), s2 = lC1 T n S 44 (lC1 T n S 91 (.inr (wE T n a), L)) → (∀ o j, ¬ cTs o j → ¬ cLs l o j → h5 o j = h o j) → cPs h5 n pl s2.1 → (0 ≤ h5 l 3 ∧ h5 l 3 ≤ 150) → (isOkS s2.1 → cStp l h5 s2.2 ∧ lK s2 n) → zCl (D + 2) 81 [(2, 2), (0, 93)] c h5 (fun _ c h => zCl (D + 2) 96 [(2, l), (0, x)] c h (fun _ c h => R 0 c h) X) X := by
      intro s2 h5 es f5 p5 b5 g5
      have ct5 : cTape h5 T n := ⟨by rw [f5 _ _ (by unfold cTs; omega) (by unfold cLs; omega)]; exact ct.1, fun k u v => by rw [f5 _ _ (by unfold cTs; omega) (by unfold cLs; omega)]; exact ct.2 k u v⟩
      refine c_81 wt (by decide) ct5 p5 (fun h6 f6 p6 => s_96 hl (by rw [f6 _ _ (by unfold cTs; omega)]; exact b5) (fun h7 f7 b7 g7 => ?_))
      rw [← es] at K
      refine K h7 (fun o j u v => by rw [f7 o j v, f6 o j u, f5 o j u v]) (cPs_fr ⟨f7 _ _ (by unfold cLs; omega), f7 _ _ (by unfold cLs; omega), f7 _ _ (by unfold cLs; omega)⟩ p6) b7 (fun ok => ?_)
      have ok5 := rdX_ok ok
      obtain ⟨g51, g52⟩ := g5 ok5
      have st6 : cStp l h6 s2.2 := cStp_fr (fun o j v => f6 o j (by unfold cLs at v; unfold cTs; omega)) g51
      refine g7 s2.2 st6 ?_
      unfold lK at g52
      cases e2 : s2.1 with
      | inl f =>
        rw [e2] at ok5
        exact absurd ok5 (fun v => v)
      | inr b =>
        rw [e2] at g52 ok
        dsimp only at g52
        have hb := nBE (T := T) g52.1.2
        unfold rdX at ok
        dsimp only at ok
        cases e3 : xF T n b 93 with
        | some f =>
          rw [e3] at ok
          exact absurd ok (fun v => v)
        | none =>
          have := xF_n e3
          omega
    have body : ∀ (s1 : lS) (ch : Int) (h5 : zH) (Q : Nat → zH → Prop), 33 ≤ ch → (∀ o j, ¬ cTs o j → ¬ cLs l o j → h5 o j = h o j) → cPs h5 n pl s1.1 → (0 ≤ h5 l 3 ∧ h5 l 3 ≤ 150) → (isOkS s1.1 → cStp l h5 s1.2) → lK s1 n → (∀ h6, (∀ o j, ¬ cTs o j → ¬ cLs l o j → h6 o j = h o j) → cPs h6 n pl (lC1 T n S ch s1).1 → (0 ≤ h6 l 3 ∧ h6 l 3 ≤ 150) → (isOkS (lC1 T n S ch s1).1 → cStp l h6 (lC1 T n S ch s1).2) → Q c h6) → zCl (D + 2) 81 [(2, 2), (0, ch)] c h5 (fun _ c h => zCl (D + 2) 77 [(2, 2)] c h (fun y c h => (y = 0 → Q c h) ∧ (y ≠ 0 → zCl (D + 2) 92 [(2, l), (2, 2), (0, op + 1)] c h (fun _ c h => Q c h) X)) X) X := by
      intro s1 ch h5 Q hch f5 p5 b5 g5 k1 KQ
      have ct5 : cTape h5 T n := ⟨by rw [f5 _ _ (by unfold cTs; omega) (by unfold cLs; omega)]; exact ct.1, fun k u v => by rw [f5 _ _ (by unfold cTs; omega) (by unfold cLs; omega)]; exact ct.2 k u v⟩
      refine c_81 wt hch ct5 p5 (fun h6 f6 p6 => ?_)
      have f6' : ∀ o j, ¬ cTs o j → ¬ cLs l o j → h6 o j = h o j := fun o j u v => by rw [f6 o j u, f5 o j u v]
      have b6 : 0 ≤ h6 l 3 ∧ h6 l 3 ≤ 150 := by rw [f6 _ _ (by unfold cTs; omega)]; exact b5
      unfold lC1 at KQ
      refine c_77 p6 (fun ok => ⟨fun v => absurd v (by decide), fun _ => ?_⟩) (fun nok => ⟨fun _ => ?_, fun v => absurd rfl v⟩)
      · have g6 : cStp l h6 s1.2 := cStp_fr (fun o j v => f6 o j (by unfold cLs at v; unfold cTs; omega)) (g5 (rdX_ok ok))
        cases e6 : rdX T n ch s1.1 with
        | inl f =>
          rw [e6] at ok
          exact absurd ok (fun v => v)
        | inr b =>
          rw [e6] at p6 KQ
          have k6 : lK (.inr b, s1.2) n := by
            unfold lK at k1 ⊢
            cases e1 : s1.1 with
            | inl f =>
              rw [e1] at e6
              exact absurd e6 (by simp [rdX])
            | inr a1 =>
              rw [e1] at e6 k1
              dsimp only at k1 ⊢
              have hb := nBE (T := T) k1.1.2
              unfold rdX at e6
              dsimp only at e6
              cases e3 : xF T n a1 ch with
              | some f =>
                rw [e3] at e6
                exact absurd e6 (by simp)
              | none =>
                have := xF_n e3
                rw [e3] at e6
                dsimp only at e6
                injection e6 with e6
                omega
          exact hS' c _ X h6 b s1.2 (cTape_fr f6 ct5) p6 k6 g6 (fun h7 f7 p7 b7 g7 => KQ h7 (fun o j u v => by rw [f7 o j u v, f6' o j u v]) p7 b7 g7)
      · cases e6 : rdX T n ch s1.1 with
        | inr b =>
          rw [e6] at nok
          exact absurd trivial nok
        | inl f =>
          rw [e6, hSi] at KQ
          rw [e6] at p6
          exact KQ h6 f6' p6 b6 (fun ok => absurd ok (fun v => v))
    have k0 : lK (.inr (wE T n a), L) n := by
      show (0 ≤ wE T n a ∧ wE T n a ≤ n) ∧ (L.length : Int) ≤ wE T n a
      omega
    have lkC : ∀ (s : lS) (ch : Int), lK s n → lK (lC1 T n S ch s) n := by
      intro s ch ks
      have g := lC1_go (T := T) (c := ch) hSg ks
      unfold lK
      cases e1 : (lC1 T n S ch s).1 with
      | inl f =>
        rw [e1] at g
        exact g
      | inr b =>
        rw [e1] at g
        obtain ⟨a0, M, p1, p2, p3, p4, p5⟩ := g
        unfold lK at ks
        rw [p1] at ks
        dsimp only at ks ⊢
        rw [p2, List.length_append]
        omega
    refine body (.inr (wE T n a), L) 91 h _ (by decide) (fun _ _ _ _ => rfl) ps (by omega) (fun _ => st) k0 (fun h6 f6 p6 b6 g6 => ?_)
    refine body (lC1 T n S 91 (.inr (wE T n a), L)) 44 h6 _ (by decide) f6 p6 b6 g6 (lkC _ _ k0) (fun h7 f7 p7 b7 g7 => ?_)
    exact T2 _ h7 rfl f7 p7 b7 (fun ok => ⟨g7 ok, lkC _ _ (lkC _ _ k0)⟩)
  · obtain ⟨p1, p2, p3, p4⟩ := ps
    have er : lPr T n S op x a L = (.inl (3, nB T n a), L) := by
      unfold lPr
      rw [if_pos ge]
    rw [er] at K
    refine s_71f p1 (K _ (fun o j u v => by rw [hw_ne (by unfold cTs at u; omega), hw_ne (by unfold cTs at u; omega)]) ⟨?_, ?_, by show (3 : Int) ≠ 0; decide, ?_⟩ ?_ (fun ok => absurd ok (fun v => v)))
    · rw [hw_ne (by omega), hw_eq ⟨rfl, rfl⟩]
    · rw [hw_eq ⟨rfl, rfl⟩, h3]
    · rw [hw_ne (by omega), hw_ne (by omega), p3]
      exact p4
    · rw [hw_ne (by omega), hw_ne (by omega)]
      omega
theorem c_94 {T : Int → Int} {n l pl : Int} (wt : wTape T n) (hn : n ≤ 150) (hl : l = 70 ∨ l = 74) {E : Nat} {op : Int} (hop : 0 ≤ op ∧ op ≤ 6) {S : lS → lS} (hSg : ∀ s, lK s n → lGo isE n s (S s)) (hSi : ∀ e L, S (.inl e, L) = (.inl e, L)) (hS : op < 6 → ∀ d, cSum T n l pl (d + E + 2) 92 (op + 1) S) (d : Nat) : cSum T n l pl (d + E + 5) 94 op (lUn T n S op) := by
  intro c R X h a L ct ps lk st K
  have K0 := K
  have lk' : (0 ≤ a ∧ a ≤ n) ∧ (L.length : Int) ≤ a := lk
  have hbe := nBE (T := T) lk'.1.2
  have hbw := nBW (T := T) lk'.1.2
  have w1 := wt.1
  have st1 := st.1
  obtain ⟨p4, p6, p2, pr⟩ := ps
  have goal : ∀ h', (∀ o j, ¬ cTs o j → ¬ cLs l o j → h' o j = h o j) → cPs h' n pl (lUa T n S op a L).1 → (0 ≤ h' l 3 ∧ h' l 3 ≤ 150) → (isOkS (lUa T n S op a L).1 → cStp l h' (lUa T n S op a L).2) → R 0 c h' := K
  have stf : ∀ h1 : zH, (∀ o j, ¬ cTs o j → h1 o j = h o j) → cStp l h1 L := fun h1 f1 => cStp_fr (fun o j v => f1 o j (by unfold cLs at v; unfold cTs; omega)) st
  refine b_94 hl (s_95 wt ct (by omega) (fun q h1 f1 e1 => ⟨fun v => absurd v (by decide), fun _ => ?_⟩) (fun q h1 f1 e1 => ⟨fun _ => ?_, fun v => absurd rfl v⟩))
  · rw [p2] at q e1
    have f1' : ∀ o j, ¬ cTs o j → h1 o j = h o j := fun o j v => f1 o j (by have := cTs2 v; omega)
    have ps1 : cPs h1 n pl (.inr (nB T n a)) := ⟨by rw [f1 _ _ (by omega)]; exact p4, by rw [f1 _ _ (by omega)]; exact p6, e1, by show 0 ≤ nB T n a ∧ nB T n a ≤ n; omega⟩
    have er : lUa T n S op a L = ((rdN T n 0 999 (.inr a)).1, L ++ [(rdN T n 0 999 (.inr a)).2]) := by
      unfold lUa
      rw [if_pos q]
    rw [er] at goal
    refine c_74 wt (cTape_fr f1' ct) ps1 (fun y h2 f2 p2' ey yb => ?_)
    rw [rdN_i lk'.1.2] at p2' ey
    have b2 : h2 l 3 = L.length := by rw [f2 _ _ (by unfold cTs; omega), f1 _ _ (by omega)]; exact st1
    refine s_96 hl (by omega) (fun h3 f3 b3 g3 => ?_)
    refine goal h3 (fun o j u v => by rw [f3 o j v, f2 o j u, f1' o j u]) (cPs_fr ⟨f3 _ _ (by unfold cLs; omega), f3 _ _ (by unfold cLs; omega), f3 _ _ (by unfold cLs; omega)⟩ p2') b3 (fun ok => ?_)
    dsimp only at ok ⊢
    rw [← ey ok]
    refine g3 L (stf h2 (fun o j v => by rw [f2 o j v, f1' o j v])) ?_
    omega
  · rw [p2] at q e1
    have f1' : ∀ o j, ¬ cTs o j → h1 o j = h o j := fun o j v => f1 o j (by have := cTs2 v; omega)
    refine s_66 wt (cTape_fr f1' ct) (by omega) (fun h2 f2 e2 => ?_)
    rw [show run isB T n (h1 2 2) = nB T n (h1 2 2) from rfl, e1, nB_i lk'.1.2] at e2
    rw [show run isB T n (h1 2 2) = nB T n (h1 2 2) from rfl, e1, nB_i lk'.1.2]
    have f2' : ∀ o j, ¬ cTs o j → h2 o j = h o j := fun o j v => by rw [f2 o j (by have := cTs2 v; omega), f1' o j v]
    have ct2 := cTape_fr f2' ct
    have h24 : h2 2 4 = 0 := by rw [f2 _ _ (by omega), f1 _ _ (by omega)]; exact p4
    have h26 : h2 2 6 = pl := by rw [f2 _ _ (by omega), f1 _ _ (by omega)]; exact p6
    have b2 : h2 l 3 = L.length := by rw [f2 _ _ (by omega), f1 _ _ (by omega)]; exact st1
    have word : ¬ (nB T n a < n ∧ T (nB T n a) = 40) → zCl (d + E + 4) 99 [(2, l), (2, 2), (0, op)] c h2 (fun _ c h => R 0 c h) X := by
      intro nq
      refine b_99 hl (s_68 wt ct2 (by omega) (fun h3 f3 g2 g3 g4 g6 => ?_))
      rw [e2, wE_i lk'.1.2] at g2
      rw [e2, nB_i lk'.1.2] at g3
      have f3' : ∀ o j, ¬ cTs o j → h3 o j = h o j := fun o j v => by rw [f3 o j v, f2' o j v]
      have ct3 := cTape_fr f3' ct
      have lets : ∀ j : Int, nB T n a ≤ j → j < wE T n a → 97 ≤ T j ∧ T j ≤ 122 := fun j x y => isS_t.mp (run_in (p := isS) (T := T) (n := n) (n - nB T n a).toNat (nB T n a) (by omega) j x y)
      have wlen : ∀ j, wOk j → wH T (nB T n a) (wE T n a) = wC j → 1 ≤ wE T n a - nB T n a := by
        intro j wj ew
        have := ((wH_is wj hbw.2.1 lets).mp ew).1
        have := wj.2.1.1
        omega
      have ps3 : cPs h3 n pl (.inr (wE T n a)) := ⟨by omega, by omega, g2, by show 0 ≤ wE T n a ∧ wE T n a ≤ n; omega⟩
      have hS2 : op < 6 → cSum T n l pl (d + E + 2) 92 (op + 1) S := fun v => hS v d
      refine s_70h wt (wOk_j (by decide) (by decide) (by decide)) ct3 g3 g2 (by omega) lets (fun e13 => ⟨fun v => absurd v (by decide), fun _ => ?_⟩) (fun n13 => ⟨fun _ => ?_, fun v => absurd rfl v⟩)
      · have er : lUa T n S op a L = lPr T n S op 1010 a L := by
          unfold lUa
          rw [if_neg q, if_neg nq, if_pos e13]
        rw [er] at goal
        exact c_100 wt hn hl hop hSg hSi hS2 (by decide) ct3 ps3 g3 lk'.1 (wlen 13 (wOk_j (by decide) (by decide) (by decide)) e13) lk'.2 (stf h3 f3') (fun h' f' p' b' s' => goal h' (fun o j u v => by rw [f' o j u v, f3' o j u]) p' b' s')
      · refine s_70h wt (wOk_j (by decide) (by decide) (by decide)) ct3 g3 g2 (by omega) lets (fun e14 => ⟨fun v => absurd v (by decide), fun _ => ?_⟩) (fun n14 => ⟨fun _ => ?_, fun v => absurd rfl v⟩)
        · have er : lUa T n S op a L = lPr T n S op 1011 a L := by
            unfold lUa
            rw [if_neg q, if_neg nq, if_neg n13, if_pos e14]
          rw [er] at goal
          exact c_100 wt hn hl hop hSg hSi hS2 (by decide) ct3 ps3 g3 lk'.1 (wlen 14 (wOk_j (by decide) (by decide) (by decide)) e14) lk'.2 (stf h3 f3') (fun h' f' p' b' s' => goal h' (fun o j u v => by rw [f' o j u v, f3' o j u]) p' b' s')
        · have fr := lFa_r T n a
          refine s_101 wt ct3 lk'.1 g3 g2 ⟨fun ne => ?_, fun ee => ?_⟩
          · have er : lUa T n S op a L = (.inr (wE T n a), L ++ [1000 + lFa T n a]) := by
              unfold lUa
              rw [if_neg q, if_neg nq, if_neg n13, if_neg n14, if_neg ne]
            rw [er] at goal
            have b3 : h3 l 3 = L.length := by rw [f3' _ _ (by unfold cTs; omega)]; exact st1
            have gg := lUn_go (T := T) (op := op) hSg (.inr a, L) lk
            rw [w32_e (by omega) (by omega)]
            refine s_96 hl (by omega) (fun h5 f5 b5 g5 => ?_)
            refine goal h5 (fun o j u v => by rw [f5 o j v, f3' o j u]) (cPs_fr ⟨f5 _ _ (by unfold cLs; omega), f5 _ _ (by unfold cLs; omega), f5 _ _ (by unfold cLs; omega)⟩ ps3) b5 (fun _ => g5 L (stf h3 f3') ?_)
            have gg' : lGo isE n (.inr a, L) (lUa T n S op a L) := gg
            rw [er] at gg'
            obtain ⟨a0, M, q1, q2, q3, q4, q5⟩ := gg'
            injection q1 with q1
            have := isE_len q3
            omega
          · have er : lUa T n S op a L = (.inl (1, nB T n a), L) := by
              unfold lUa
              rw [if_neg q, if_neg nq, if_neg n13, if_neg n14, if_pos ee]
            rw [er] at goal
            refine s_71f (by omega) (goal _ (fun o j u v => by rw [hw_ne (by unfold cTs at u; omega), hw_ne (by unfold cTs at u; omega), f3' o j u]) ⟨?_, ?_, by show (1 : Int) ≠ 0; decide, ?_⟩ ?_ (fun ok => absurd ok (fun v => v)))
            · rw [hw_ne (by omega), hw_eq ⟨rfl, rfl⟩]
            · rw [hw_eq ⟨rfl, rfl⟩, g3]
            · rw [hw_ne (by omega), hw_ne (by omega), g2]
              omega
            · rw [hw_ne (by omega), hw_ne (by omega), f3' _ _ (by unfold cTs; omega)]
              omega
    have brac : nB T n a < n → T (nB T n a) = 40 → zCl (d + E + 4) 97 [(2, l), (2, 2), (0, op)] c h2 (fun _ c h => R 0 c h) X := by
      intro q1 q2
      refine b_97 (d := d + E + 1) hl ⟨fun lt => ?_, fun ge => ?_⟩
      · have er : lUa T n S op a L = (rdX T n 41 (S (.inr (nB T n a + 1), L)).1, (S (.inr (nB T n a + 1), L)).2) := by
          unfold lUa
          rw [if_neg q, if_pos ⟨q1, q2⟩, if_neg (by omega)]
        rw [er] at goal
        refine s_82 wt (by decide) ct2 (by omega) (fun _ h3 f3 e3 => ?_) (fun v => ?_)
        · rw [e2, nB_i lk'.1.2] at e3
          have f3' : ∀ o j, ¬ cTs o j → h3 o j = h o j := fun o j v => by rw [f3 o j (by have := cTs2 v; omega), f2' o j v]
          have hS2 := hS lt (d + 1)
          rw [show d + 1 + E + 2 = d + E + 1 + 2 by omega] at hS2
          rw [w32_e (by omega) (by omega)]
          have k3 : lK (.inr (nB T n a + 1), L) n := by
            show (0 ≤ nB T n a + 1 ∧ nB T n a + 1 ≤ n) ∧ (L.length : Int) ≤ nB T n a + 1
            omega
          refine hS2 c _ X h3 (nB T n a + 1) L (cTape_fr f3' ct) ⟨by rw [f3 _ _ (by omega)]; exact h24, by rw [f3 _ _ (by omega)]; exact h26, e3, k3.1⟩ k3 (stf h3 f3') (fun h4 f4 p4' b4 g4 => ?_)
          have f4' : ∀ o j, ¬ cTs o j → ¬ cLs l o j → h4 o j = h o j := fun o j u v => by rw [f4 o j u v, f3' o j u]
          have ct4 : cTape h4 T n := ⟨by rw [f4' _ _ (by unfold cTs; omega) (by unfold cLs; omega)]; exact ct.1, fun k u v => by rw [f4' _ _ (by unfold cTs; omega) (by unfold cLs; omega)]; exact ct.2 k u v⟩
          refine c_81 wt (by decide) ct4 p4' (fun h5 f5 p5 => goal h5 (fun o j u v => by rw [f5 o j u, f4' o j u v]) p5 ?_ (fun ok => ?_))
          · rw [f5 _ _ (by unfold cTs; omega)]
            exact b4
          · exact cStp_fr (fun o j v => f5 o j (by unfold cLs at v; unfold cTs; omega)) (g4 (rdX_ok ok))
        · rw [e2, nB_i lk'.1.2] at v
          exact absurd ⟨q1, q2⟩ v
      · have er : lUa T n S op a L = (.inl (3, nB T n a), L) := by
          unfold lUa
          rw [if_neg q, if_pos ⟨q1, q2⟩, if_pos ge]
        rw [er] at goal
        refine s_98f wt ct2 (by omega) h24 (fun h3 f3 g4 g6 g2 => goal h3 (fun o j u v => by rw [f3 o j u, f2' o j u]) ⟨g4, by rw [g6, e2, nB_i lk'.1.2], by show (3 : Int) ≠ 0; decide, g2⟩ ?_ (fun ok => absurd ok (fun v => v)))
        rw [f3 _ _ (by unfold cTs; omega)]
        omega
    by_cases q1 : nB T n a < n
    · rw [if_pos q1]
      exact ⟨fun w => word (fun v => w v.2), fun w => brac q1 w⟩
    · rw [if_neg q1]
      exact ⟨fun w => word (fun v => q1 v.1), fun w => absurd w (by decide)⟩
