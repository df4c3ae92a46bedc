/-! each call on both sides: a plan taken from the bytes -/
theorem mPk_K {T : Int → Int} {n nd np : Int} (hnp : 0 ≤ np ∧ np ≤ 4) : ∀ (m : Nat) (a : Int) (P : List (Int × Int)) {K PL : Int}, 0 ≤ a → a ≤ n → mPk T n nd np m a P = .inl (K, PL) → K = 1 ∨ K = 2
  | 0, _, _, _, _, _, _, e => by cases e
  | m + 1, a, P, K, PL, h0, h, e => by
    rw [mPk] at e
    split at e
    · split at e
      · rename_i f e1
        injection e with e
        subst e
        exact (mPl_K hnp h0 h e1).1
      · rename_i x e1
        obtain ⟨x1, x2, x3⟩ := x
        have r := mPl_r hnp h0 h e1
        exact mPk_K hnp m _ _ r.2.2.1.1 r.2.2.1.2 e
    · cases e
def vPk (q : (Int × Int) ⊕ List (Int × Int)) : Int := match q with
  | .inl f => w32 (f.1 - 10)
  | .inr P => P.length
theorem gCl_q {h h' : zH} {t t' l l' p p' b b' : Int} {r : zH} {f : Int → Int} {N : Nat} {P : List (Int × Int)} {s : Int → Int} {n : Int} {L : gLg} {I : gIm} {T : Int → Int} {m : Int} {P' : List (Int × Int)} {m' : Int} (hI : I.length ≤ 3) (fr : ∀ o j, cCel o j → ¬ ((o = 2 ∧ j = 5) ∨ (o = 1 ∧ (j = 9 ∨ j = 10)) ∨ (p' ≤ o ∧ o ≤ p' + 5)) → h' o j = h o j) (q1 : gRf h' t t' l l' p' p b b') (q4 : cPlan p' h' P') (q6 : h' p' 6 = ([] : gLg).length ∧ cLogR p' h' []) (q8 : h' 2 5 = m' ∧ ∀ k : Int, 0 ≤ k → k < m' → h' 3 k = (T k + 128) % 256 - 128) (w : gCl h t t' l l' p p' b b' r f N P s n L I T m) : gCl h' t t' l l' p' p b b' r f N P' s n [] I T m' := by
  obtain ⟨w1, w2, w3, w4, w5, w6, w7, w8, w9, w10⟩ := w
  have w1' := w1
  obtain ⟨_, e1, e2, e3, e4⟩ := w1'
  have r1 : 30 ≤ t ∧ t ≤ 50 ∧ 30 ≤ t' ∧ t' ≤ 50 := by clear e2 e3 e4; omega
  have r2 : 70 ≤ l ∧ l ≤ 74 ∧ 70 ≤ l' ∧ l' ≤ 74 := by clear e1 e3 e4; omega
  have r3 : 78 ≤ p ∧ p ≤ 84 ∧ 78 ≤ p' ∧ p' ≤ 84 := by clear e1 e2 e4; omega
  have r4 : 90 ≤ b ∧ b ≤ 92 ∧ 90 ≤ b' ∧ b' ≤ 92 := by clear e1 e2 e3; omega
  unfold cCel at fr
  exact ⟨q1, cRoad_fr (fun o j a c => fr _ _ (by clear e2 e3 e4; omega) (by clear e2 e3 e4; omega)) w2, cLaw_fr (fun o j a => fr _ _ (by clear e1 e3 e4; omega) (by clear e1 e3 e4; omega)) w3, q4, cBook_fr (fun o j a => fr _ _ (by clear e1 e2 e3; omega) (by clear e1 e2 e3; omega)) w5, q6, ⟨by rw [fr _ _ (by clear e1 e2 e3 e4; omega) (by clear e1 e2 e3 e4; omega)]; exact w7.1, cImR_fr (fun o j a c => fr _ _ (by clear e1 e2 e3 e4; omega) (by clear e1 e2 e3 e4; omega)) w7.2⟩, q8, ⟨fun p a c => by rw [fr _ _ (by clear e1 e2 e3 e4; omega) (by clear e1 e2 e3 e4; omega)]; exact w9.1 p a c, by rw [fr _ _ (by clear e1 e2 e3 e4; omega) (by clear e1 e2 e3 e4; omega)]; exact w9.2.1, by rw [fr _ _ (by clear e1 e2 e3 e4; omega) (by clear e1 e2 e3 e4; omega)]; exact w9.2.2⟩, fun e => cBs_fr ⟨fr _ _ (by clear e1 e2 e3 e4; omega) (by clear e1 e2 e3 e4; omega), fr _ _ (by clear e1 e2 e3 e4; omega) (by clear e1 e2 e3 e4; omega)⟩ (fun i => fr _ _ (by clear e1 e2 e3 e4; omega) (by clear e1 e2 e3 e4; omega)) (w10 (by rw [fr _ _ (by clear e1 e2 e3 e4; omega) (by clear e1 e2 e3 e4; omega)] at e; exact e))⟩
theorem gMl_q {h h' : zH} {r : zH} {f : Int → Int} {N : Nat} {P : List (Int × Int)} {s : Int → Int} {n : Int} {L : gLg} {I : gIm} {T : Int → Int} {m : Int} {P' : List (Int × Int)} {m' : Int} (fr : ∀ o j, mCel o j → ¬ (o = 139 ∨ o = 154 ∨ (o = 113 ∧ (j = 2 ∨ j = 49 ∨ j = 70))) → h' o j = h o j) (q3 : mPlan h' P') (q5 : h' 113 70 = ([] : gLg).length ∧ mLogR h' 154 0 []) (q7 : h' 113 2 = m' ∧ ∀ k : Int, 0 ≤ k → k < m' → h' 115 k = T k) (w : gMl h r f N P s n L I T m) : gMl h' r f N P' s n [] I T m' := by
  obtain ⟨w1, w2, w3, w4, w5, w6, w7, w8, w9⟩ := w
  unfold mCel at fr
  exact ⟨mRoad_fr (fun o j a => fr _ _ (by unfold mRo at a; omega) (by unfold mRo at a; omega)) w1, mLaw_fr (fun o j a => fr _ _ (by unfold mLo at a; omega) (by unfold mLo at a; omega)) w2, q3, mBook_fr (fun o j a => fr _ _ (by omega) (by omega)) w4, q5, ⟨by rw [fr _ _ (by omega) (by omega)]; exact w6.1, mImR_f (fun j => fr _ _ (by omega) (by omega)) w6.2⟩, q7, fun i a c => by rw [fr _ _ (by omega) (by omega)]; exact w8 i a c, by unfold mCW at w9 ⊢; rw [fr _ _ (by omega) (by omega)]; exact w9⟩
def gRr2 (t t' l l' b b' : Int) : Prop := (t = 30 ∧ t' = 50 ∨ t = 50 ∧ t' = 30) ∧ (l = 70 ∧ l' = 74 ∨ l = 74 ∧ l' = 70) ∧ (b = 90 ∧ b' = 92 ∨ b = 92 ∧ b' = 90)
theorem o_3 {d c : Nat} {X : Nat → Nat → zH → Prop} {h : zH} {x1 : Int} (g : gI h) : zCl (d + 59) 102 [(2, 1), (0, x1), (2, 156)] c h (fun k c h1 => (∀ j, h1 0 j = h 0 j) ∧ zCl (d + 59) 250 [(2, 113), (0, x1)] c h1 (fun b _ h2 => gP h k b h2) X) X := by
  obtain ⟨t, t', l, l', p, p', b, b', r, f, N, P, s, n, L, I, T, m, gw, gc, gm, gx⟩ := id g
  obtain ⟨⟨wr, wl, wpl⟩, gw2, gw3, gw4, gw5⟩ := id gw
  obtain ⟨rf, cr, cl, cp, cb, clg, cim, ctp, czr, cca⟩ := id gc
  obtain ⟨⟨e5, e6, e7, e8, e9, e10, e11, e12⟩, rt, rl, rp, rb⟩ := rf
  have ht : zIsR t := by unfold zIsR; omega
  have hl : zIsL l := by unfold zIsL; omega
  have hp : zIsP p := by unfold zIsP; omega
  have hb : zIsB b := by unfold zIsB; omega
  have wd := wr_d wr
  have wq := wr_p wr
  have wn := wr_n wr
  have wb := wr_b wr
  have wc := wr_c wr
  have wdd : wD r f N P := ⟨wr, wl, wpl⟩
  have hp' : zIsP p' := by clear rt rl rb; unfold zIsP; omega
  have rp' : 78 ≤ p ∧ p ≤ 84 ∧ 78 ≤ p' ∧ p' ≤ 84 := by clear rt rl rb; omega
  have rp2 : (p' = 78 ∧ p = 84) ∨ (p' = 84 ∧ p = 78) := by clear rt rl rb; omega
  have rr : gRr2 t t' l l' b b' := ⟨rt, rl, rb⟩
  clear rt rl rp rb
  refine combG (c := c) (c0 := 0 ≤ x1 ∧ x1 ≤ m ∧ x1 ≤ 150) (c1 := True) (V := vPk (mPk T x1 (r 0 1) (r 0 0) 13 0 [])) (QC := (fun h' => (∀ o j, ¬ (o = 2 ∧ 1 ≤ j ∧ j ≤ 6) → ¬ (p' ≤ o ∧ o ≤ p' + 5) → ¬ (o = 1 ∧ (j = 9 ∨ j = 10)) → h' o j = h o j) ∧ h' 2 5 = 0 ∧ (∀ q, mPk T x1 (r 0 1) (r 0 0) 13 0 [] = .inl q → h' 2 6 = q.2 ∧ h' 1 9 = p ∧ h' 1 10 = p') ∧ (∀ q, mPk T x1 (r 0 1) (r 0 0) 13 0 [] = .inr q → wPl (r 0 1) (r 0 0) q ∧ h' 2 6 = -1 ∧ h' 1 9 = p' ∧ h' 1 10 = p ∧ cPlan p' h' q ∧ h' p' 6 = 0))) (QM := (fun H h' => (∀ o j, ¬ (o = 113 ∧ (j = 0 ∨ (2 ≤ j ∧ j ≤ 8) ∨ j = 49 ∨ j = 70)) → o ≠ 138 → o ≠ 139 → h' o j = H o j) ∧ h' 113 0 = 0 ∧ h' 113 2 = 0 ∧ (∀ q, mPk T x1 (r 0 1) (r 0 0) 13 0 [] = .inl q → h' 113 8 = q.2 ∧ h' 113 49 = H 113 49 ∧ h' 113 70 = H 113 70 ∧ ∀ k, h' 139 k = H 139 k) ∧ (∀ q, mPk T x1 (r 0 1) (r 0 0) 13 0 [] = .inr q → h' 113 8 = -1 ∧ mPlan h' q ∧ h' 113 70 = 0))) 1 1 (fun R X => zCl (d + 58) 103 [(2, 1), (0, x1)] c h R X) (fun c H R => zCl (d + 59) 250 [(2, 113), (0, x1)] c H R X) (fun R => zCl (d + 59) 102 [(2, 1), (0, x1), (2, 156)] c h R X) g (by decide) (fun h' q o j a => q.1 o j (by omega) (by omega) (by omega)) (fun h0 hc h1 h2 q1 q2 => ?_) (fun R' z => b_102 (zCl_mono (fun _ _ _ w => w) (fun E c h w => w.elim id (fun w => absurd (fun _ => trivial) w.2.1)) z)) (fun R' X' ok no0 no1 => ?_) (fun c H R' fr ok no0 no1 => ?_) (by first | exact Or.inl rfl | exact Or.inr trivial)
  · obtain ⟨a1, a2, a3, a4⟩ := q1
    obtain ⟨c1, c2, c3, c4, c5⟩ := q2
    have e0 : ∀ o j, o < 113 → h2 o j = h1 o j := fun o j q => by rw [c1 o j (by omega) (by omega) (by omega), hw_ne (by omega)]
    have e : ∀ o j, ¬ (o = 2 ∧ 1 ≤ j ∧ j ≤ 6) → ¬ (p' ≤ o ∧ o ≤ p' + 5) → ¬ (o = 1 ∧ (j = 9 ∨ j = 10)) → ¬ (o = 113 ∧ (j = 0 ∨ (2 ≤ j ∧ j ≤ 8) ∨ j = 49 ∨ j = 70)) → o ≠ 138 → o ≠ 139 → ¬ (o = 156 ∧ j = 0) → h2 o j = h o j := fun o j w1 w2 w4 w5 w6 w7 w8 => by rw [c1 o j w5 w6 w7, hw_ne (by omega), a1 o j w1 w2 w4]
    have v0 : h2 156 0 = vPk (mPk T x1 (r 0 1) (r 0 0) 13 0 []) := by rw [c1 _ _ (by omega) (by omega) (by omega), hw_eq ⟨rfl, rfl⟩]
    have tp : h2 2 5 = 0 ∧ ∀ k : Int, 0 ≤ k → k < 0 → h2 3 k = (T k + 128) % 256 - 128 := ⟨by rw [e0 _ _ (by omega)]; exact a2, fun k x y => by omega⟩
    have tm : h2 113 2 = 0 ∧ ∀ k : Int, 0 ≤ k → k < 0 → h2 115 k = T k := ⟨c3, fun k x y => by omega⟩
    obtain ⟨x1', x2', x3', x4'⟩ := gx
    have xx : h2 1 15 = h2 114 0 ∧ h2 1 16 = h2 114 1 ∧ h2 1 17 = h2 114 2 := by
      rw [e 1 15 (by omega) (by omega) (by omega) (by omega) (by omega) (by omega) (by omega), e 1 16 (by omega) (by omega) (by omega) (by omega) (by omega) (by omega) (by omega), e 1 17 (by omega) (by omega) (by omega) (by omega) (by omega) (by omega) (by omega), e 114 0 (by omega) (by omega) (by omega) (by omega) (by omega) (by omega) (by omega), e 114 1 (by omega) (by omega) (by omega) (by omega) (by omega) (by omega) (by omega), e 114 2 (by omega) (by omega) (by omega) (by omega) (by omega) (by omega) (by omega)]
      exact ⟨x2', x3', x4'⟩
    cases eB : mPk T x1 (r 0 1) (r 0 0) 13 0 [] with
    | inl q =>
      obtain ⟨a5, a6, a7⟩ := a3 q eB
      obtain ⟨c6, c7, c8, c9⟩ := c4 q eB
      have gw' : gW r f N P L I T 0 := ⟨⟨wr, wl, wpl⟩, gw2, gw3, by decide, fun k x y => by omega⟩
      have e' : ∀ o j, ¬ (o = 2 ∧ 1 ≤ j ∧ j ≤ 6) → ¬ (p' ≤ o ∧ o ≤ p' + 5) → ¬ (o = 113 ∧ (j = 0 ∨ (2 ≤ j ∧ j ≤ 8))) → o ≠ 138 → ¬ (o = 156 ∧ j = 0) → h2 o j = h o j := fun o j w1 w2 w4 w5 w6 => by
        by_cases z1 : o = 1 ∧ (j = 9 ∨ j = 10)
        · obtain ⟨z2, z3⟩ := z1
          subst z2
          rcases z3 with z | z <;> subst z
          · rw [e0 _ _ (by omega), a6, e9]
          · rw [e0 _ _ (by omega), a7, e10]
        · by_cases z4 : o = 113 ∧ (j = 49 ∨ j = 70)
          · obtain ⟨z5, z6⟩ := z4
            subst z5
            rcases z6 with z | z <;> subst z
            · rw [c7, hw_ne (by omega), a1 _ _ (by omega) (by omega) (by omega)]
            · rw [c8, hw_ne (by omega), a1 _ _ (by omega) (by omega) (by omega)]
          · by_cases z7 : o = 139
            · subst z7
              rw [c9, hw_ne (by omega), a1 _ _ (by omega) (by omega) (by omega)]
            · exact e o j w1 w2 z1 (by omega) w5 z7 w6
      exact ⟨⟨t, t', l, l', p, p', b, b', r, f, N, P, s, n, L, I, T, 0, gw', gCl_sp gw3 (fun o j a a' => e' o j (by unfold cCel at a; omega) (by unfold cCel at a; omega) (by unfold cCel at a; omega) (by unfold cCel at a; omega) (by unfold cCel at a; omega)) tp gc, gMl_t (fun o j a a' => e' o j (by unfold mCel at a; omega) (by unfold mCel at a; omega) (by unfold mCel at a; omega) (by unfold mCel at a; omega) (by unfold mCel at a; omega)) tm gm, by rw [e0 _ _ (by omega), a5, c6], xx⟩, c2, fun _ => by rw [v0, eB], fun j => e' _ _ (by omega) (by omega) (by omega) (by omega) (by omega)⟩
    | inr q =>
      obtain ⟨wq', a5, a6, a7, a8, a9⟩ := a4 q eB
      obtain ⟨c6, c7, c8⟩ := c5 q eB
      have gw' : gW r f N q [] I T 0 := ⟨⟨wr, wl, wPl_12 wd.2 wq', wq'.1, wq'.2⟩, ⟨by decide, trivial⟩, gw3, by decide, fun k x y => by omega⟩
      have rf' : gRf h2 t t' l l' p' p b b' := ⟨⟨by rw [e _ _ (by omega) (by omega) (by omega) (by omega) (by omega) (by omega) (by omega)]; exact e5, by rw [e _ _ (by omega) (by omega) (by omega) (by omega) (by omega) (by omega) (by omega)]; exact e6, by rw [e _ _ (by omega) (by omega) (by omega) (by omega) (by omega) (by omega) (by omega)]; exact e7, by rw [e _ _ (by omega) (by omega) (by omega) (by omega) (by omega) (by omega) (by omega)]; exact e8, by rw [e0 _ _ (by omega)]; exact a6, by rw [e0 _ _ (by omega)]; exact a7, by rw [e _ _ (by omega) (by omega) (by omega) (by omega) (by omega) (by omega) (by omega)]; exact e11, by rw [e _ _ (by omega) (by omega) (by omega) (by omega) (by omega) (by omega) (by omega)]; exact e12⟩, rr.1, rr.2.1, rp2, rr.2.2⟩
      exact ⟨⟨t, t', l, l', p', p, b, b', r, f, N, q, s, n, [], I, T, 0, gw', gCl_q gw3 (fun o j a a' => e o j (by unfold cCel at a; omega) (by unfold cCel at a; omega) (by unfold cCel at a; omega) (by unfold cCel at a; omega) (by unfold cCel at a; omega) (by unfold cCel at a; omega) (by unfold cCel at a; omega)) rf' (cPlan_fr (fun o j a c => e0 _ _ (by omega)) a8) ⟨by rw [e0 _ _ (by omega)]; exact a9, trivial⟩ tp gc, gMl_q (fun o j a a' => e o j (by unfold mCel at a; omega) (by unfold mCel at a; omega) (by unfold mCel at a; omega) (by unfold mCel at a; omega) (by unfold mCel at a; omega) (by unfold mCel at a; omega) (by unfold mCel at a; omega)) c7 ⟨c8, trivial⟩ tm gm, by rw [e0 _ _ (by omega), a5, c6], xx⟩, c2, fun _ => by rw [v0, eB], fun j => e _ _ (by omega) (by omega) (by omega) (by omega) (by omega) (by omega) (by omega)⟩
  · refine b_103 ht hp hp' (s60 ctp.1 (fun hc => ⟨by rw [tk_o (by omega)]; exact e10, by rw [tk_o (by omega)]; exact e5, ?_⟩) (fun n => no0 n))
    have wt : wTape T x1 := ⟨by omega, fun k a b => gw5 k a (by omega)⟩
    have ct : cTape (tk h x1) T x1 := ⟨tk_v.1, fun k a b => by rw [tk_o (by omega)]; exact ctp.2 k a (by omega)⟩
    have k := ok hc trivial
    have ht2 := ht
    unfold zIsR at ht2
    refine s_104 wt hp' ht (nd := r 0 1) (np := r 0 0) (by rw [tk_o (by omega)]; exact cr_d cr) (by rw [tk_o (by omega)]; exact cr_p cr) wd wq ct (by rw [tk_v.2.2.1]; omega) tk_v.2.2.2.1 (fun K PL e h' f' a4 a6 => ?_) (fun P2 e w2 h' f' a4 a6 b6 q => ?_)
    · rw [tk_v.2.2.1] at e
      have kn := mPk_K wq 13 0 [] (by omega) (by omega) e
      refine b_77 ⟨fun _ => ⟨fun v => absurd rfl v, fun _ => ?_⟩, fun e4 => absurd e4 (by omega)⟩
      have kk := k h' ⟨fun o j w1 w2 w4 => by rw [f' o j (by unfold cTs; omega) w2, tk_o w1], by rw [f' _ _ (by unfold cTs; omega) (by omega)]; exact tk_v.2.1, fun q eq => ?_, fun q eq => absurd (e.symm.trans eq) (by intro w; cases w)⟩
      · rw [e] at kk
        rw [a4]
        exact kk
      · have := Sum.inl.inj (e.symm.trans eq)
        subst this
        exact ⟨a6, by rw [f' _ _ (by unfold cTs; omega) (by omega), tk_o (by omega)]; exact e9, by rw [f' _ _ (by unfold cTs; omega) (by omega), tk_o (by omega)]; exact e10⟩
    · rw [tk_v.2.2.1] at e
      rw [tk_v.2.2.2.2] at a6
      refine b_77 ⟨fun n => absurd a4 n, fun _ => ⟨fun _ => ⟨by rw [f' _ _ (by unfold cTs; omega) (by omega), tk_o (by omega)]; exact e9, by rw [f' _ _ (by unfold cTs; omega) (by omega), tk_o (by omega)]; exact e10, ?_⟩, fun v => absurd v (by decide)⟩⟩
      have kk := k (hw (hw h' 1 9 p') 1 10 p) ⟨fun o j w1 w2 w4 => by rw [hw_ne (by omega), hw_ne (by omega), f' o j (by unfold cTs; omega) w2, tk_o w1], by rw [hw_ne (by omega), hw_ne (by omega), f' _ _ (by unfold cTs; omega) (by omega)]; exact tk_v.2.1, fun q eq => absurd (e.symm.trans eq) (by intro w; cases w), fun q2 eq => ?_⟩
      · rw [e] at kk
        rw [hw_ne (by omega), hw_ne (by omega), q.1]
        exact kk
      · have := Sum.inr.inj (e.symm.trans eq)
        subst this
        exact ⟨w2, by rw [hw_ne (by omega), hw_ne (by omega)]; exact a6, by rw [hw_ne (by omega), hw_eq ⟨rfl, rfl⟩], hw_eq ⟨rfl, rfl⟩, cPlan_fr (fun o j a c => by rw [hw_ne (by omega), hw_ne (by omega)]) q, by rw [hw_ne (by omega), hw_ne (by omega)]; exact b6⟩
  · have gm' := gM_o fr gm
    obtain ⟨mr, ml, mp, mb, mlg, mim, mtp, mz, mcw⟩ := gm'.2
    have mm : H 113 2 = m := by
      have := mtp.1
      rw [hw_ne (by omega)] at this
      exact this
    refine b_250 ?_
    rw [mm]
    refine ⟨fun q => b_250_29 (b_250_30 (f222 (by decide) (by decide) h00 ⟨fun v => absurd rfl v, fun _ => no0 (by omega)⟩)), fun q => ⟨fun q2 => b_250_29 (b_250_30 (f222 (by decide) (by decide) h00 ⟨fun v => absurd rfl v, fun _ => no0 (by omega)⟩)), fun q2 => ⟨fun q3 => b_250_29 (b_250_30 (f222 (by decide) (by decide) h00 ⟨fun v => absurd rfl v, fun _ => no0 (by omega)⟩)), fun q3 => b_250_30 (t222 (by decide) (by decide) h00 ⟨fun _ => ?_, fun v => absurd v (by decide)⟩)⟩⟩⟩
    have hc : 0 ≤ x1 ∧ x1 ≤ m ∧ x1 ≤ 150 := by omega
    have wt : wTape T x1 := ⟨by omega, fun k a b => gw5 k a (by omega)⟩
    have k := ok hc trivial
    show zWp _ 250 49 _ [] (zTS c (mk6 (hw H 113 0 0) x1)) _
    obtain ⟨H3, hH3⟩ : ∃ H3, H3 = mk6 (hw H 113 0 0) x1 := ⟨_, rfl⟩
    rw [← hH3]
    have mv := mk6_v (h := hw H 113 0 0) (x := x1)
    rw [← hH3] at mv
    have f3 : ∀ o j, ¬ (o = 113 ∧ (2 ≤ j ∧ j ≤ 8)) → H3 o j = (hw H 113 0 0) o j := fun o j w => by rw [hH3, mk6_o (by omega)]
    have fH : ∀ o j, ¬ (o = 113 ∧ (j = 0 ∨ (2 ≤ j ∧ j ≤ 8))) → H3 o j = H o j := fun o j w => by rw [f3 o j (by omega), hw_ne (by omega)]
    have z3 : H3 113 0 = 0 := by rw [f3 _ _ (by omega), hw_eq ⟨rfl, rfl⟩]
    have mt : mTape H3 T x1 := ⟨mv.2.2.1, fun k a b => by rw [f3 _ _ (by omega)]; exact mtp.2 k a (by omega)⟩
    have l0 : (([] : List (Int × Int)).length : Int) = 0 := rfl
    refine s_250_49 (a0 := 0) (nd := r 0 1) (np := r 0 0) wt (by rw [f3 _ _ (by omega)]; exact mr_d mr) (by rw [f3 _ _ (by omega)]; exact mr_p mr) wd wq mt (fun K PL e hPL h' i2 i3 f' a5 a6 => ?_) (fun P2 e w2 h' i3 f' a5 a138 => ?_) 13 [] H3 rfl ⟨fun k a b => by omega, fun i j a b c => by omega⟩ (fun k a b => by omega) (fun _ _ _ _ => rfl) (by rw [mv.2.2.2.1]; omega) mv.2.2.2.2.1 (by rw [mv.2.2.2.1])
    · refine b_250_163 (s240 (fun n => ⟨fun e5 => ?_, fun _ => ?_⟩) (fun e5 => absurd e5 (by omega)))
      · rw [hw_ne (by omega)] at e5
        exact absurd e5 n
      · have kk := k (hw h' 113 8 (h' 113 5)) ⟨fun o j w1 w2 w3 => by rw [hw_ne (by omega), f' o j (by unfold mTs; omega) w2, fH o j (by omega)], by rw [hw_ne (by omega), f' _ _ (by unfold mTs; omega) (by omega)]; exact z3, by rw [hw_ne (by omega), f' _ _ (by unfold mTs; omega) (by omega)]; exact mv.1, fun q eq => ?_, fun q eq => absurd (e.symm.trans eq) (by intro w; cases w)⟩
        · rw [e] at kk
          rw [a6]
          exact kk
        · have := Sum.inl.inj (e.symm.trans eq)
          subst this
          exact ⟨by rw [hw_eq ⟨rfl, rfl⟩]; exact a5, by rw [hw_ne (by omega), f' _ _ (by unfold mTs; omega) (by omega), fH _ _ (by omega)], by rw [hw_ne (by omega), f' _ _ (by unfold mTs; omega) (by omega), fH _ _ (by omega)], fun k => by rw [hw_ne (by omega), f' _ _ (by unfold mTs; omega) (by omega), fH _ _ (by omega)]⟩
    · have len := wPl_12 wd.2 w2
      refine b_250_163 (s240 (fun n => absurd a5 n) (fun e5 => ⟨fun _ => ?_, fun n => ?_⟩))
      · rw [w32_e (by omega) (by omega), show 2 * (P2.length : Int) = ((2 * P2.length : Nat) : Int) by omega]
        refine s_218 (m := 2 * P2.length) zo_138 zo_139 (by decide) (by omega) (fun h4 f4 b1 b2 => ?_)
        have kk := k (hw h4 113 70 0) ⟨fun o j w1 w2 w3 => by rw [hw_ne (by omega), f4 o j w3, hw_ne (by omega), hw_ne (by omega), f' o j (by unfold mTs; omega) w2, fH o j (by omega)], by rw [hw_ne (by omega), f4 _ _ (by omega), hw_ne (by omega), hw_ne (by omega), f' _ _ (by unfold mTs; omega) (by omega)]; exact z3, by rw [hw_ne (by omega), f4 _ _ (by omega), hw_ne (by omega), hw_ne (by omega), f' _ _ (by unfold mTs; omega) (by omega)]; exact mv.1, fun q eq => absurd (e.symm.trans eq) (by intro w; cases w), fun q eq => ?_⟩
        · rw [e] at kk
          exact kk
        · have := Sum.inr.inj (e.symm.trans eq)
          subst this
          refine ⟨by rw [hw_ne (by omega), f4 _ _ (by omega), hw_ne (by omega), hw_eq ⟨rfl, rfl⟩]; exact a5, ⟨by rw [hw_ne (by omega), f4 _ _ (by omega), hw_eq ⟨rfl, rfl⟩], fun k a b => ?_⟩, hw_eq ⟨rfl, rfl⟩⟩
          rw [hw_ne (by omega), hw_ne (by omega), b1 _ (by omega) (by omega), b1 _ (by omega) (by omega), hw_ne (by omega), hw_ne (by omega), hw_ne (by omega), hw_ne (by omega)]
          exact a138 k a b
      · rw [hw_ne (by omega)] at n
        exact absurd a5 n
