/-! each call on both sides: a law taken from the bytes -/
def vLw (q : (Int × Int) ⊕ Int) (v : Int) : Int := match q with
  | .inl f => w32 (f.1 - 10)
  | .inr _ => v
def gRr3 (t t' p p' b b' : Int) : Prop := (t = 30 ∧ t' = 50 ∨ t = 50 ∧ t' = 30) ∧ (p = 78 ∧ p' = 84 ∨ p = 84 ∧ p' = 78) ∧ (b = 90 ∧ b' = 92 ∨ b = 92 ∧ b' = 90)
theorem gCl_l {h h' : zH} {t t' l l' p p' b b' : Int} {r : zH} {f : Int → Int} {N : Nat} {P : List (Int × Int)} {s : Int → Int} {n : Int} {L : gLg} {I : gIm} {T : Int → Int} {m : Int} {f' : Int → Int} {N' : Nat} {m' : Int} (hI : I.length ≤ 3) (fr : ∀ o j, cCel o j → ¬ ((o = 2 ∧ j = 5) ∨ (o = 1 ∧ (j = 7 ∨ j = 8)) ∨ (l' ≤ o ∧ o ≤ l' + 1) ∨ (o = 11 ∧ j = 8)) → h' o j = h o j) (q1 : gRf h' t t' l' l p p' b b') (q3 : cLaw l' h' f' N') (q8 : h' 2 5 = m' ∧ ∀ k : Int, 0 ≤ k → k < m' → h' 3 k = (T k + 128) % 256 - 128) (q10 : h' 11 8 ≠ 0 → cBs h' (sFull r f' N')) (w : gCl h t t' l l' p p' b b' r f N P s n L I T m) : gCl h' t t' l' l p p' b b' r f' N' P s n L I T m' := by
  obtain ⟨w1, w2, w3, w4, w5, w6, w7, w8, w9, w10⟩ := w
  have w1' := w1
  obtain ⟨_, e1, e2, e3, e4⟩ := w1'
  have r1 : 30 ≤ t ∧ t ≤ 50 ∧ 30 ≤ t' ∧ t' ≤ 50 := by clear e2 e3 e4; omega
  have r2 : 70 ≤ l ∧ l ≤ 74 ∧ 70 ≤ l' ∧ l' ≤ 74 := by clear e1 e3 e4; omega
  have r3 : 78 ≤ p ∧ p ≤ 84 ∧ 78 ≤ p' ∧ p' ≤ 84 := by clear e1 e2 e4; omega
  have r4 : 90 ≤ b ∧ b ≤ 92 ∧ 90 ≤ b' ∧ b' ≤ 92 := by clear e1 e2 e3; omega
  unfold cCel at fr
  exact ⟨q1, cRoad_fr (fun o j a c => fr _ _ (by clear e2 e3 e4; omega) (by clear e2 e3 e4; omega)) w2, q3, cPlan_fr (fun o j a c => fr _ _ (by clear e1 e2 e4; omega) (by clear e1 e2 e4; omega)) w4, cBook_fr (fun o j a => fr _ _ (by clear e1 e2 e3; omega) (by clear e1 e2 e3; omega)) w5, ⟨by rw [fr _ _ (by clear e1 e2 e4; omega) (by clear e1 e2 e4; omega)]; exact w6.1, cLogR_fr (fun o j a c _ _ => fr _ _ (by clear e1 e2 e4; omega) (by clear e1 e2 e4; omega)) w6.2⟩, ⟨by rw [fr _ _ (by clear e1 e2 e3 e4; omega) (by clear e1 e2 e3 e4; omega)]; exact w7.1, cImR_fr (fun o j a c => fr _ _ (by clear e1 e2 e3 e4; omega) (by clear e1 e2 e3 e4; omega)) w7.2⟩, q8, ⟨fun p a c => by rw [fr _ _ (by clear e1 e2 e3 e4; omega) (by clear e1 e2 e3 e4; omega)]; exact w9.1 p a c, by rw [fr _ _ (by clear e1 e2 e3 e4; omega) (by clear e1 e2 e3 e4; omega)]; exact w9.2.1, by rw [fr _ _ (by clear e1 e2 e3 e4; omega) (by clear e1 e2 e3 e4; omega)]; exact w9.2.2⟩, q10⟩
theorem gMl_l {h h' : zH} {r : zH} {f : Int → Int} {N : Nat} {P : List (Int × Int)} {s : Int → Int} {n : Int} {L : gLg} {I : gIm} {T : Int → Int} {m : Int} {f' : Int → Int} {N' : Nat} {m' : Int} (fr : ∀ o j, mCel o j → ¬ (o = 134 ∨ o = 135 ∨ (o = 113 ∧ (j = 2 ∨ j = 43))) → h' o j = h o j) (q2 : mLaw h' f' N') (q7 : h' 113 2 = m' ∧ ∀ k : Int, 0 ≤ k → k < m' → h' 115 k = T k) (w : gMl h r f N P s n L I T m) : gMl h' r f' N' P s n L I T m' := by
  obtain ⟨w1, w2, w3, w4, w5, w6, w7, w8, w9⟩ := w
  unfold mCel at fr
  exact ⟨mRoad_fr (fun o j a => fr _ _ (by unfold mRo at a; omega) (by unfold mRo at a; omega)) w1, q2, mPlan_fr (fun o j a => fr _ _ (by omega) (by omega)) w3, mBook_fr (fun o j a => fr _ _ (by omega) (by omega)) w4, ⟨by rw [fr _ _ (by omega) (by omega)]; exact w5.1, mLogR_f (fun j => fr _ _ (by omega) (by omega)) w5.2⟩, ⟨by rw [fr _ _ (by omega) (by omega)]; exact w6.1, mImR_f (fun j => fr _ _ (by omega) (by omega)) w6.2⟩, q7, fun i a c => by rw [fr _ _ (by omega) (by omega)]; exact w8 i a c, by unfold mCW at w9 ⊢; rw [fr _ _ (by omega) (by omega)]; exact w9⟩
theorem o_2 {d c : Nat} {X : Nat → Nat → zH → Prop} {h : zH} {x1 : Int} (g : gI h) : zCl (d + 59) 89 [(2, 1), (0, x1), (2, 156)] c h (fun k c h1 => (∀ j, h1 0 j = h 0 j) ∧ zCl (d + 59) 241 [(2, 113), (0, x1)] c h1 (fun b _ h2 => gP h k b h2) X) X := by
  obtain ⟨t, t', l, l', p, p', b, b', r, f, N, P, s, n, L, I, T, m, gw, gc, gm, gx⟩ := id g
  obtain ⟨⟨wr, wl, wpl⟩, gw2, gw3, gw4, gw5⟩ := id gw
  obtain ⟨rf, cr, cl, cp, cb, clg, cim, ctp, czr, cca⟩ := id gc
  obtain ⟨⟨e5, e6, e7, e8, e9, e10, e11, e12⟩, rt, rl, rp, rb⟩ := rf
  have ht : zIsR t := by unfold zIsR; omega
  have hl : zIsL l := by unfold zIsL; omega
  have hp : zIsP p := by unfold zIsP; omega
  have hb : zIsB b := by unfold zIsB; omega
  have wd := wr_d wr
  have wq := wr_p wr
  have wn := wr_n wr
  have wb := wr_b wr
  have wc := wr_c wr
  have wdd : wD r f N P := ⟨wr, wl, wpl⟩
  have hl' : l' = 70 ∨ l' = 74 := by clear rt rp rb; omega
  have rl' : 70 ≤ l ∧ l ≤ 74 ∧ 70 ≤ l' ∧ l' ≤ 74 := by clear rt rp rb; omega
  have rl2 : (l' = 70 ∧ l = 74) ∨ (l' = 74 ∧ l = 70) := by clear rt rp rb; omega
  have rr : gRr3 t t' p p' b b' := ⟨rt, rp, rb⟩
  clear rt rl rp rb
  refine combG (c := c) (c0 := 0 ≤ x1 ∧ x1 ≤ m ∧ x1 ≤ 150) (c1 := True) (V := vLw (lRd T x1 0).1 1) (QC := (fun h' => (∀ o j, ¬ (o = 2 ∧ 1 ≤ j ∧ j ≤ 6) → ¬ (l' ≤ o ∧ o ≤ l' + 1) → ¬ (o = 1 ∧ (j = 7 ∨ j = 8)) → ¬ (o = 11 ∧ j = 8) → h' o j = h o j) ∧ h' 2 5 = 0 ∧ (∀ q, (lRd T x1 0).1 = .inl q → h' 2 6 = q.2 ∧ h' 1 7 = l ∧ h' 1 8 = l' ∧ h' 11 8 = h 11 8) ∧ (∀ q, (lRd T x1 0).1 = .inr q → h' 2 6 = -1 ∧ h' 1 7 = l' ∧ h' 1 8 = l ∧ h' 11 8 = 0 ∧ cLaw l' h' (lF (lRd T x1 0).2) (lRd T x1 0).2.length))) (QM := (fun H h' => (∀ o j, ¬ (o = 113 ∧ (j = 0 ∨ (2 ≤ j ∧ j ≤ 8) ∨ j = 42 ∨ j = 43)) → ¬ (132 ≤ o ∧ o ≤ 135) → h' o j = H o j) ∧ h' 113 0 = 0 ∧ h' 113 2 = 0 ∧ (∀ q, (lRd T x1 0).1 = .inl q → h' 113 8 = q.2 ∧ h' 113 43 = H 113 43 ∧ ∀ o k, o = 134 ∨ o = 135 → h' o k = H o k) ∧ (∀ q, (lRd T x1 0).1 = .inr q → h' 113 8 = -1 ∧ mLaw h' (lF (lRd T x1 0).2) (lRd T x1 0).2.length))) 1 1 (fun R X => zCl (d + 58) 90 [(2, 1), (0, x1)] c h R X) (fun c H R => zCl (d + 59) 241 [(2, 113), (0, x1)] c H R X) (fun R => zCl (d + 59) 89 [(2, 1), (0, x1), (2, 156)] c h R X) g (by decide) (fun h' q o j a => q.1 o j (by omega) (by omega) (by omega) (by omega)) (fun h0 hc h1 h2 q1 q2 => ?_) (fun R' z => b_89 (zCl_mono (fun _ _ _ w => w) (fun E c h w => w.elim id (fun w => absurd (fun _ => trivial) w.2.1)) z)) (fun R' X' ok no0 no1 => ?_) (fun c H R' fr ok no0 no1 => ?_) (by first | exact Or.inl rfl | exact Or.inr trivial)
  · obtain ⟨a1, a2, a3, a4⟩ := q1
    obtain ⟨c1, c2, c3, c4, c5⟩ := q2
    have e0 : ∀ o j, o < 113 → h2 o j = h1 o j := fun o j q => by rw [c1 o j (by omega) (by omega), hw_ne (by omega)]
    have e : ∀ o j, ¬ (o = 2 ∧ 1 ≤ j ∧ j ≤ 6) → ¬ (l' ≤ o ∧ o ≤ l' + 1) → ¬ (o = 1 ∧ (j = 7 ∨ j = 8)) → ¬ (o = 11 ∧ j = 8) → ¬ (o = 113 ∧ (j = 0 ∨ (2 ≤ j ∧ j ≤ 8) ∨ j = 42 ∨ j = 43)) → ¬ (132 ≤ o ∧ o ≤ 135) → ¬ (o = 156 ∧ j = 0) → h2 o j = h o j := fun o j w1 w2 w3 w4 w5 w6 w8 => by rw [c1 o j w5 w6, hw_ne (by omega), a1 o j w1 w2 w3 w4]
    have v0 : h2 156 0 = vLw ((lRd T x1 0).1) 1 := by rw [c1 _ _ (by omega) (by omega), hw_eq ⟨rfl, rfl⟩]
    have tp : h2 2 5 = 0 ∧ ∀ k : Int, 0 ≤ k → k < 0 → h2 3 k = (T k + 128) % 256 - 128 := ⟨by rw [e0 _ _ (by omega)]; exact a2, fun k x y => by omega⟩
    have tm : h2 113 2 = 0 ∧ ∀ k : Int, 0 ≤ k → k < 0 → h2 115 k = T k := ⟨c3, fun k x y => by omega⟩
    obtain ⟨x1', x2', x3', x4'⟩ := gx
    have xx : h2 1 15 = h2 114 0 ∧ h2 1 16 = h2 114 1 ∧ h2 1 17 = h2 114 2 := by
      rw [e 1 15 (by omega) (by omega) (by omega) (by omega) (by omega) (by omega) (by omega), e 1 16 (by omega) (by omega) (by omega) (by omega) (by omega) (by omega) (by omega), e 1 17 (by omega) (by omega) (by omega) (by omega) (by omega) (by omega) (by omega), e 114 0 (by omega) (by omega) (by omega) (by omega) (by omega) (by omega) (by omega), e 114 1 (by omega) (by omega) (by omega) (by omega) (by omega) (by omega) (by omega), e 114 2 (by omega) (by omega) (by omega) (by omega) (by omega) (by omega) (by omega)]
      exact ⟨x2', x3', x4'⟩
    cases eB : (lRd T x1 0).1 with
    | inl q =>
      obtain ⟨a5, a6, a7, a8⟩ := a3 q eB
      obtain ⟨c6, c7, c8⟩ := c4 q eB
      have gw' : gW r f N P L I T 0 := ⟨⟨wr, wl, wpl⟩, gw2, gw3, by decide, fun k x y => by omega⟩
      have e' : ∀ o j, ¬ (o = 2 ∧ 1 ≤ j ∧ j ≤ 6) → ¬ (l' ≤ o ∧ o ≤ l' + 1) → ¬ (o = 113 ∧ (j = 0 ∨ (2 ≤ j ∧ j ≤ 8) ∨ j = 42)) → ¬ (132 ≤ o ∧ o ≤ 133) → ¬ (o = 156 ∧ j = 0) → h2 o j = h o j := fun o j w1 w2 w4 w5 w6 => by
        by_cases z1 : o = 1 ∧ (j = 7 ∨ j = 8)
        · obtain ⟨z2, z3⟩ := z1
          subst z2
          rcases z3 with z | z <;> subst z
          · rw [e0 _ _ (by omega), a6, e7]
          · rw [e0 _ _ (by omega), a7, e8]
        · by_cases z4 : o = 113 ∧ j = 43
          · obtain ⟨z5, z6⟩ := z4
            subst z5
            subst z6
            rw [c7, hw_ne (by omega), a1 _ _ (by omega) (by omega) (by omega) (by omega)]
          · by_cases z7 : o = 134 ∨ o = 135
            · rw [c8 o j z7, hw_ne (by omega), a1 _ _ (by omega) (by omega) (by omega) (by omega)]
            · by_cases z8 : o = 11 ∧ j = 8
              · obtain ⟨z9, zA⟩ := z8
                subst z9
                subst zA
                rw [e0 _ _ (by omega), a8]
              · exact e o j w1 w2 z1 z8 (by omega) (by omega) w6
      exact ⟨⟨t, t', l, l', p, p', b, b', r, f, N, P, s, n, L, I, T, 0, gw', gCl_sp gw3 (fun o j a a' => e' o j (by unfold cCel at a; omega) (by unfold cCel at a; omega) (by unfold cCel at a; omega) (by unfold cCel at a; omega) (by unfold cCel at a; omega)) tp gc, gMl_t (fun o j a a' => e' o j (by unfold mCel at a; omega) (by unfold mCel at a; omega) (by unfold mCel at a; omega) (by unfold mCel at a; omega) (by unfold mCel at a; omega)) tm gm, by rw [e0 _ _ (by omega), a5, c6], xx⟩, c2, fun _ => by rw [v0, eB], fun j => e' _ _ (by omega) (by omega) (by omega) (by omega) (by omega)⟩
    | inr q =>
      obtain ⟨a5, a6, a7, a8, a9⟩ := a4 q eB
      obtain ⟨c6, c7⟩ := c5 q eB
      have gw' : gW r (lF (lRd T x1 0).2) (lRd T x1 0).2.length P L I T 0 := ⟨⟨wr, lRd_w h0.2.2 (by omega) eB, wpl⟩, gw2, gw3, by decide, fun k x y => by omega⟩
      have rf' : gRf h2 t t' l' l p p' b b' := ⟨⟨by rw [e _ _ (by omega) (by omega) (by omega) (by omega) (by omega) (by omega) (by omega)]; exact e5, by rw [e _ _ (by omega) (by omega) (by omega) (by omega) (by omega) (by omega) (by omega)]; exact e6, by rw [e0 _ _ (by omega)]; exact a6, by rw [e0 _ _ (by omega)]; exact a7, by rw [e _ _ (by omega) (by omega) (by omega) (by omega) (by omega) (by omega) (by omega)]; exact e9, by rw [e _ _ (by omega) (by omega) (by omega) (by omega) (by omega) (by omega) (by omega)]; exact e10, by rw [e _ _ (by omega) (by omega) (by omega) (by omega) (by omega) (by omega) (by omega)]; exact e11, by rw [e _ _ (by omega) (by omega) (by omega) (by omega) (by omega) (by omega) (by omega)]; exact e12⟩, rr.1, rl2, rr.2.1, rr.2.2⟩
      exact ⟨⟨t, t', l', l, p, p', b, b', r, lF (lRd T x1 0).2, (lRd T x1 0).2.length, P, s, n, L, I, T, 0, gw', gCl_l gw3 (fun o j a a' => e o j (by unfold cCel at a; omega) (by unfold cCel at a; omega) (by unfold cCel at a; omega) (by unfold cCel at a; omega) (by unfold cCel at a; omega) (by unfold cCel at a; omega) (by unfold cCel at a; omega)) rf' (cLaw_fr (fun o j a => e0 _ _ (by omega)) a9) tp (fun z => absurd (by rw [e0 _ _ (by omega)]; exact a8) z) gc, gMl_l (fun o j a a' => e o j (by unfold mCel at a; omega) (by unfold mCel at a; omega) (by unfold mCel at a; omega) (by unfold mCel at a; omega) (by unfold mCel at a; omega) (by unfold mCel at a; omega) (by unfold mCel at a; omega)) c7 tm gm, by rw [e0 _ _ (by omega), a5, c6], xx⟩, c2, fun _ => by rw [v0, eB], fun j => e _ _ (by omega) (by omega) (by omega) (by omega) (by omega) (by omega) (by omega)⟩
  · refine b_90 hl hl' (s60 ctp.1 (fun hc => ⟨by rw [tk_o (by omega)]; exact e8, ?_⟩) (fun n => no0 n))
    have wt : wTape T x1 := ⟨by omega, fun k a b => gw5 k a (by omega)⟩
    have ct : cTape (tk h x1) T x1 := ⟨tk_v.1, fun k a b => by rw [tk_o (by omega)]; exact ctp.2 k a (by omega)⟩
    have k := ok hc trivial
    refine s_91 wt hc.2.2 hl' ct (by rw [tk_v.2.2.1]; omega) tk_v.2.2.2.1 (fun h' f' ps lw => ?_)
    rw [tk_v.2.2.1] at ps lw
    rw [tk_v.2.2.2.2] at ps
    have fr' : ∀ o j, ¬ (o = 2 ∧ 1 ≤ j ∧ j ≤ 6) → ¬ (l' ≤ o ∧ o ≤ l' + 1) → h' o j = h o j := fun o j w1 w2 => by rw [f' o j (by unfold cTs; omega) (by unfold cLs; omega), tk_o w1]
    have t5 : h' 2 5 = 0 := by rw [f' _ _ (by unfold cTs; omega) (by unfold cLs; omega)]; exact tk_v.2.1
    cases eB : (lRd T x1 0).1 with
    | inl q =>
      rw [eB] at ps
      obtain ⟨p1, p2, p3, _⟩ := ps
      refine b_77 ⟨fun _ => ⟨fun v => absurd rfl v, fun _ => ?_⟩, fun e4 => absurd (p1.symm.trans e4) p3⟩
      have kk := k h' ⟨fun o j w1 w2 w3 w4 => fr' o j w1 w2, t5, fun q2 eq => ?_, fun q2 eq => absurd (eB.symm.trans eq) (by intro w; cases w)⟩
      · rw [eB] at kk
        rw [p1]
        exact kk
      · have := Sum.inl.inj (eB.symm.trans eq)
        subst this
        exact ⟨p2, by rw [fr' _ _ (by omega) (by omega)]; exact e7, by rw [fr' _ _ (by omega) (by omega)]; exact e8, fr' _ _ (by omega) (by omega)⟩
    | inr q =>
      rw [eB] at ps lw
      obtain ⟨p1, p2, p3, _⟩ := ps
      have cl' := lw trivial
      refine b_77 ⟨fun n => absurd p1 n, fun _ => ⟨fun _ => ⟨by rw [fr' _ _ (by omega) (by omega)]; exact e7, by rw [fr' _ _ (by omega) (by omega)]; exact e8, ?_⟩, fun v => absurd v (by decide)⟩⟩
      have kk := k (hw (hw (hw h' 1 7 l') 1 8 l) 11 8 0) ⟨fun o j w1 w2 w3 w4 => by rw [hw_ne (by omega), hw_ne (by omega), hw_ne (by omega), fr' o j w1 w2], by rw [hw_ne (by omega), hw_ne (by omega), hw_ne (by omega)]; exact t5, fun q eq => absurd (eB.symm.trans eq) (by intro w; cases w), fun q2 eq => ?_⟩
      · rw [eB] at kk
        exact kk
      · exact ⟨by rw [hw_ne (by omega), hw_ne (by omega), hw_ne (by omega)]; exact p2, by rw [hw_ne (by omega), hw_ne (by omega), hw_eq ⟨rfl, rfl⟩], by rw [hw_ne (by omega), hw_eq ⟨rfl, rfl⟩], hw_eq ⟨rfl, rfl⟩, cLaw_fr (fun o j a => by rw [hw_ne (by omega), hw_ne (by omega), hw_ne (by omega)]) cl'⟩
  · have gm' := gM_o fr gm
    obtain ⟨mr, ml, mp, mb, mlg, mim, mtp, mz, mcw⟩ := gm'.2
    have mm : H 113 2 = m := by
      have := mtp.1
      rw [hw_ne (by omega)] at this
      exact this
    refine b_241 ?_
    rw [mm]
    refine ⟨fun q => b_241_29 (b_241_30 (f222 (by decide) (by decide) h00 ⟨fun v => absurd rfl v, fun _ => no0 (by omega)⟩)), fun q => ⟨fun q2 => b_241_29 (b_241_30 (f222 (by decide) (by decide) h00 ⟨fun v => absurd rfl v, fun _ => no0 (by omega)⟩)), fun q2 => ⟨fun q3 => b_241_29 (b_241_30 (f222 (by decide) (by decide) h00 ⟨fun v => absurd rfl v, fun _ => no0 (by omega)⟩)), fun q3 => b_241_30 (t222 (by decide) (by decide) h00 ⟨fun _ => ?_, fun v => absurd v (by decide)⟩)⟩⟩⟩
    have hc : 0 ≤ x1 ∧ x1 ≤ m ∧ x1 ≤ 150 := by omega
    have wt : wTape T x1 := ⟨by omega, fun k a b => gw5 k a (by omega)⟩
    have k := ok hc trivial
    have mv := mk6_v (h := hw H 113 0 0) (x := x1)
    obtain ⟨H3, hH3⟩ : ∃ H3, H3 = hw (mk6 (hw H 113 0 0) x1) 113 42 0 := ⟨_, rfl⟩
    have f3 : ∀ o j, ¬ (o = 113 ∧ j = 42) → H3 o j = mk6 (hw H 113 0 0) x1 o j := fun o j w => by rw [hH3, hw_ne (by omega)]
    have fH : ∀ o j, ¬ (o = 113 ∧ (j = 0 ∨ (2 ≤ j ∧ j ≤ 8) ∨ j = 42)) → H3 o j = H o j := fun o j w => by rw [f3 o j (by omega), mk6_o (by omega), hw_ne (by omega)]
    have z3 : H3 113 0 = 0 := by rw [f3 _ _ (by omega), mk6_o (by omega), hw_eq ⟨rfl, rfl⟩]
    have z2 : H3 113 2 = 0 := by rw [f3 _ _ (by omega)]; exact mv.1
    have mt : mTape H3 T x1 := ⟨by rw [f3 _ _ (by omega)]; exact mv.2.2.1, fun k a b => by rw [f3 _ _ (by omega), mk6_o (by omega)]; exact mtp.2 k a (by omega)⟩
    have main := s_241r (R := R') (d := d + 25) (c := c) (X := X) (h := H3) (Q := fun c h => zWp (d + 59) 241 77 [(2, 113), (0, x1), (9, 0)] [] (zTS c h) (zQ 1 R' X)) wt hc.2.2 mt (by rw [f3 _ _ (by omega)]; exact mv.2.2.2.1) (by rw [f3 _ _ (by omega)]; exact mv.2.2.2.2.1) (by rw [f3 _ _ (by omega)]; exact mv.2.2.2.2.2) (by rw [hH3, hw_eq ⟨rfl, rfl⟩]) (fun h' f' ps st => ?_)
    · rw [hH3] at main
      exact main
    · have fr' : ∀ o j, ¬ (o = 113 ∧ (j = 0 ∨ (2 ≤ j ∧ j ≤ 8) ∨ j = 42)) → ¬ (132 ≤ o ∧ o ≤ 133) → h' o j = H o j := fun o j w1 w2 => by rw [f' o j (by unfold mTs; omega) (by unfold mLz; omega), fH o j w1]
      have y0 : h' 113 0 = 0 := by rw [f' _ _ (by unfold mTs; omega) (by unfold mLz; omega)]; exact z3
      have y2 : h' 113 2 = 0 := by rw [f' _ _ (by unfold mTs; omega) (by unfold mLz; omega)]; exact z2
      cases eB : (lRd T x1 0).1 with
      | inl q =>
        rw [eB] at ps
        obtain ⟨p1, p2, p3, p4⟩ := ps
        refine b_241_77 (s240 (fun n => ⟨fun e5 => ?_, fun _ => ?_⟩) (fun e5 => absurd (p2.symm.trans e5) p3))
        · rw [hw_ne (by omega)] at e5
          exact absurd e5 n
        · have kk := k (hw h' 113 8 (h' 113 5)) ⟨fun o j w1 w2 => by rw [hw_ne (by omega), fr' o j (by omega) (by omega)], by rw [hw_ne (by omega)]; exact y0, by rw [hw_ne (by omega)]; exact y2, fun q2 eq => ?_, fun q2 eq => absurd (eB.symm.trans eq) (by intro w; cases w)⟩
          · rw [eB] at kk
            rw [p1]
            exact kk
          · have := Sum.inl.inj (eB.symm.trans eq)
            subst this
            exact ⟨by rw [hw_eq ⟨rfl, rfl⟩]; exact p2, by rw [hw_ne (by omega), fr' _ _ (by omega) (by omega)], fun o k w => by rw [hw_ne (by omega), fr' _ _ (by omega) (by omega)]⟩
      | inr q =>
        rw [eB] at ps st
        obtain ⟨p1, p2, _⟩ := ps
        obtain ⟨s1, s2⟩ := st trivial
        have lw := lRd_w hc.2.2 (by omega) eB
        have ln := lw.1
        refine b_241_77 (s240 (fun n => absurd p1 n) (fun e5 => ⟨fun _ => ?_, fun n => ?_⟩))
        · rw [hw_ne (o' := 113) (k' := 42) (by omega), s1]
          refine s_218 (m := (lRd T x1 0).2.length) zo_132 zo_134 (by decide) (by omega) (fun h4 f4 b1 b2 => ?_)
          rw [f4 _ _ (by omega), hw_ne (o' := 113) (k' := 42) (by omega), hw_ne (o' := 113) (k' := 42) (by omega), s1]
          refine s_218 (m := (lRd T x1 0).2.length) zo_133 zo_135 (by decide) (by omega) (fun h5 f5 d1 d2 => ?_)
          have kk := k h5 ⟨fun o j w1 w2 => by rw [f5 o j (by omega), f4 o j (by omega), hw_ne (by omega), hw_ne (by omega), fr' o j (by omega) (by omega)], by rw [f5 _ _ (by omega), f4 _ _ (by omega), hw_ne (by omega), hw_ne (by omega)]; exact y0, by rw [f5 _ _ (by omega), f4 _ _ (by omega), hw_ne (by omega), hw_ne (by omega)]; exact y2, fun q2 eq => absurd (eB.symm.trans eq) (by intro w; cases w), fun q2 eq => ⟨by rw [f5 _ _ (by omega), f4 _ _ (by omega), hw_ne (by omega), hw_eq ⟨rfl, rfl⟩]; exact p1, Or.inr ⟨by rw [f5 _ _ (by omega), f4 _ _ (by omega), hw_eq ⟨rfl, rfl⟩], by omega, fun k a b => ?_⟩⟩⟩
          · rw [eB] at kk
            exact kk
          · obtain ⟨e, he⟩ := nat_of a
            subst he
            have cc := s2 e (by omega)
            rw [f5 _ _ (by omega), b1 _ (by omega) b, d1 _ (by omega) b, f4 _ _ (by omega), hw_ne (by omega), hw_ne (by omega), hw_ne (by omega), hw_ne (by omega)]
            exact cc
        · rw [hw_ne (by omega)] at n
          exact absurd p1 n
