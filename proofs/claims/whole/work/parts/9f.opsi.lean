/-! each call on both sides: a road taken from the bytes -/
def gRr4 (l l' p p' b b' : Int) : Prop := (l = 70 ∧ l' = 74 ∨ l = 74 ∧ l' = 70) ∧ (p = 78 ∧ p' = 84 ∨ p = 84 ∧ p' = 78) ∧ (b = 90 ∧ b' = 92 ∨ b = 92 ∧ b' = 90)
theorem wLaw1 : wLaw (fun _ => 1000) 1 := ⟨by decide, fun k a => ⟨(by decide : (0 : Int) ≤ 1000), (by decide : (1000 : Int) ≤ 1011), fun q => absurd (show (1006 : Int) ≤ 1000 from q) (by decide)⟩, by decide⟩
theorem len0 : (([] : List (Int × Int)).length : Int) = 0 := rfl
theorem wPlan0 (r : zH) : wPlan r [] := ⟨by decide, fun k a b => by rw [len0] at b; omega, fun i j a b c => by rw [len0] at c; omega⟩
/-- cells of a road just taken -/
def rdC (t' l p b o j : Int) : Prop := (o = 2 ∧ 1 ≤ j ∧ j ≤ 6) ∨ (t' ≤ o ∧ o ≤ t' + 19) ∨ (o = 1 ∧ (j = 5 ∨ j = 6 ∨ j = 14)) ∨ (o = l ∧ j = 3) ∨ (o = l + 1 ∧ j = 0) ∨ (o = p ∧ (j = 5 ∨ j = 6)) ∨ (o = b ∧ j = 1) ∨ o = b + 1 ∨ (o = 11 ∧ j = 8)
def rdM (o j : Int) : Prop := (o = 113 ∧ (j = 0 ∨ (2 ≤ j ∧ j ≤ 8) ∨ (26 ≤ j ∧ j ≤ 36) ∨ j = 43 ∨ j = 49 ∨ j = 50 ∨ j = 70 ∨ j = 72)) ∨ (116 ≤ o ∧ o ≤ 131) ∨ o = 141
theorem gCl_road {h h' : zH} {t t' l l' p p' b b' : Int} {r r' : zH} {f : Int → Int} {N : Nat} {P : List (Int × Int)} {s : Int → Int} {n : Int} {L : gLg} {I : gIm} {T : Int → Int} {m : Int} (fr : ∀ o j, ¬ rdC t' l p b o j → 1 ≤ o → o < 113 → h' o j = h o j) (q1 : gRf h' t' t l l' p p' b b') (q2 : cRoad t' h' r') (q3 : h' l 3 = 1 ∧ h' (l + 1) 0 = 1000) (q4 : h' p 5 = 0 ∧ h' p 6 = 0) (q5 : h' b 1 = 0 ∧ ∀ k : Int, 0 ≤ k → k < 3 → h' (b + 1) k = -1) (q7 : h' 1 14 = 0) (q8 : h' 2 5 = 0) (q10 : h' 11 8 = 0) (w : gCl h t t' l l' p p' b b' r f N P s n L I T m) : gCl h' t' t l l' p p' b b' r' (fun _ => 1000) 1 [] (fun _ => -1) 0 [] [] T 0 := by
  obtain ⟨w1, w2, w3, w4, w5, w6, w7, w8, w9, w10⟩ := w
  obtain ⟨_, e1, e2, e3, e4⟩ := w1
  have r1 : 30 ≤ t ∧ t ≤ 50 ∧ 30 ≤ t' ∧ t' ≤ 50 := by clear e2 e3 e4; omega
  have r2 : 70 ≤ l ∧ l ≤ 74 := by clear e1 e3 e4; omega
  have r3 : 78 ≤ p ∧ p ≤ 84 := by clear e1 e2 e4; omega
  have r4 : 90 ≤ b ∧ b ≤ 92 := by clear e1 e2 e3; omega
  clear e1 e2 e3 e4
  unfold rdC at fr
  exact ⟨q1, q2, ⟨q3.1, fun k a c => by rw [show k = 0 by omega]; exact q3.2⟩, ⟨q4.1, fun k a c => by rw [len0] at c; omega⟩, ⟨q5.1, q5.2⟩, ⟨q4.2, trivial⟩, ⟨q7, trivial⟩, ⟨q8, fun k a c => by omega⟩, ⟨fun p a c => by rw [fr _ _ (by omega) (by omega) (by omega)]; exact w9.1 p a c, by rw [fr _ _ (by omega) (by omega) (by omega)]; exact w9.2.1, by rw [fr _ _ (by omega) (by omega) (by omega)]; exact w9.2.2⟩, fun e => absurd q10 e⟩
theorem gMl_road {h h' : zH} {r r' : zH} {f : Int → Int} {N : Nat} {P : List (Int × Int)} {s : Int → Int} {n : Int} {L : gLg} {I : gIm} {T : Int → Int} {m : Int} (fr : ∀ o j, ¬ rdM o j → 113 ≤ o → o ≠ 156 → h' o j = h o j) (q1 : mRoad h' r') (q2 : h' 113 43 = 0 ∧ h' 113 49 = 0 ∧ h' 113 50 = 0 ∧ h' 113 70 = 0 ∧ h' 113 72 = 0) (q4 : ∀ k : Int, 0 ≤ k → k < 3 → h' 141 k = -1) (q7 : h' 113 2 = 0) (w : gMl h r f N P s n L I T m) : gMl h' r' (fun _ => 1000) 1 [] (fun _ => -1) 0 [] [] T 0 := by
  obtain ⟨w1, w2, w3, w4, w5, w6, w7, w8, w9⟩ := w
  unfold rdM at fr
  exact ⟨q1, Or.inl ⟨q2.1, rfl, rfl⟩, ⟨q2.2.1, fun k a c => by rw [len0] at c; omega⟩, ⟨q2.2.2.1, q4⟩, ⟨q2.2.2.2.1, trivial⟩, ⟨q2.2.2.2.2, trivial⟩, ⟨q7, fun k a c => by omega⟩, fun i a c => by rw [fr _ _ (by omega) (by omega) (by omega)]; exact w8 i a c, by unfold mCW at w9 ⊢; rw [fr _ _ (by omega) (by omega) (by omega)]; exact w9⟩
theorem o_1 {d c : Nat} {X : Nat → Nat → zH → Prop} {h : zH} {x1 : Int} (g : gI h) : zCl (d + 59) 58 [(2, 1), (0, x1), (2, 156)] c h (fun k c h1 => (∀ j, h1 0 j = h 0 j) ∧ zCl (d + 59) 221 [(2, 113), (0, x1)] c h1 (fun b _ h2 => gP h k b h2) X) X := by
  obtain ⟨t, t', l, l', p, p', b, b', r, f, N, P, s, n, L, I, T, m, gw, gc, gm, gx⟩ := id g
  obtain ⟨⟨wr, wl, wpl⟩, gw2, gw3, gw4, gw5⟩ := id gw
  obtain ⟨rf, cr, cl, cp, cb, clg, cim, ctp, czr, cca⟩ := id gc
  obtain ⟨⟨e5, e6, e7, e8, e9, e10, e11, e12⟩, rt, rl, rp, rb⟩ := rf
  have ht : zIsR t := by unfold zIsR; omega
  have hl : zIsL l := by unfold zIsL; omega
  have hp : zIsP p := by unfold zIsP; omega
  have hb : zIsB b := by unfold zIsB; omega
  have wd := wr_d wr
  have wq := wr_p wr
  have wn := wr_n wr
  have wb := wr_b wr
  have wc := wr_c wr
  have wdd : wD r f N P := ⟨wr, wl, wpl⟩
  have ht' : zIsR t' := by clear rl rp rb; unfold zIsR; omega
  have hb2 : (zK (b + 1)).1 = 50 ∧ ((zK (b + 1)).2 : Int) = 3 := by
    unfold zIsB at hb
    rcases hb with z | z
    · rw [z]; exact zo_91
    · rw [z]; exact zo_93
  have r1 : 30 ≤ t ∧ t ≤ 50 ∧ 30 ≤ t' ∧ t' ≤ 50 := by clear rl rp rb; omega
  have rt2 : (t' = 30 ∧ t = 50) ∨ (t' = 50 ∧ t = 30) := by clear rl rp rb; omega
  have r2 : 70 ≤ l ∧ l ≤ 74 ∧ 70 ≤ l' ∧ l' ≤ 74 := by clear rt rp rb; omega
  have r3 : 78 ≤ p ∧ p ≤ 84 ∧ 78 ≤ p' ∧ p' ≤ 84 := by clear rt rl rb; omega
  have r4 : 90 ≤ b ∧ b ≤ 92 ∧ 90 ≤ b' ∧ b' ≤ 92 := by clear rt rl rp; omega
  have rr : gRr4 l l' p p' b b' := ⟨rl, rp, rb⟩
  clear rt rl rp rb
  refine combG (c := c) (c0 := 0 ≤ x1 ∧ x1 ≤ m ∧ x1 ≤ 600) (c1 := True) (V := vLw (rRd T x1 0).1 ((rRd T x1 0).2.1 1)) (QC := (fun h' => (∀ o j, ¬ rdC t' l p b o j → h' o j = h o j) ∧ h' 2 5 = 0 ∧ (∀ q, (rRd T x1 0).1 = .inl q → h' 2 6 = q.2 ∧ ∀ o j, ¬ (o = 2 ∧ 1 ≤ j ∧ j ≤ 6) → ¬ (t' ≤ o ∧ o ≤ t' + 19) → h' o j = h o j) ∧ (∀ q, (rRd T x1 0).1 = .inr q → h' 2 6 = -1 ∧ (h' 1 5 = t' ∧ h' 1 6 = t) ∧ cRoad t' h' (rEnd (rRd T x1 0).2.1 (rRd T x1 0).2.2) ∧ wRoad (rEnd (rRd T x1 0).2.1 (rRd T x1 0).2.2) ∧ (h' l 3 = 1 ∧ h' (l + 1) 0 = 1000) ∧ (h' p 5 = 0 ∧ h' p 6 = 0) ∧ (h' b 1 = 0 ∧ ∀ k : Int, 0 ≤ k → k < 3 → h' (b + 1) k = -1) ∧ h' 1 14 = 0 ∧ h' 11 8 = 0))) (QM := (fun H h' => (∀ o j, ¬ rdM o j → h' o j = H o j) ∧ h' 113 0 = 0 ∧ h' 113 2 = 0 ∧ (∀ q, (rRd T x1 0).1 = .inl q → h' 113 8 = q.2 ∧ ∀ o j, ¬ (o = 113 ∧ (j = 0 ∨ (2 ≤ j ∧ j ≤ 8))) → ¬ mDs o j → h' o j = H o j) ∧ (∀ q, (rRd T x1 0).1 = .inr q → h' 113 8 = -1 ∧ mRoad h' (rEnd (rRd T x1 0).2.1 (rRd T x1 0).2.2) ∧ (h' 113 43 = 0 ∧ h' 113 49 = 0 ∧ h' 113 50 = 0 ∧ h' 113 70 = 0 ∧ h' 113 72 = 0) ∧ ∀ k : Int, 0 ≤ k → k < 3 → h' 141 k = -1))) 1 1 (fun R X => zCl (d + 58) 59 [(2, 1), (0, x1)] c h R X) (fun c H R => zCl (d + 59) 221 [(2, 113), (0, x1)] c H R X) (fun R => zCl (d + 59) 58 [(2, 1), (0, x1), (2, 156)] c h R X) g (by decide) (fun h' q o j a => q.1 o j (by unfold rdC; omega)) (fun h0 hc h1 h2 q1 q2 => ?_) (fun R' z => b_58 (zCl_mono (fun _ _ _ w => w) (fun E c h w => w.elim id (fun w => absurd (fun _ => trivial) w.2.1)) z)) (fun R' X' ok no0 no1 => ?_) (fun c H R' fr ok no0 no1 => ?_) (by first | exact Or.inl rfl | exact Or.inr trivial)
  · obtain ⟨a1, a2, a3, a4⟩ := q1
    obtain ⟨c1, c2, c3, c4, c5⟩ := q2
    have e0 : ∀ o j, o < 113 → h2 o j = h1 o j := fun o j q => by rw [c1 o j (by unfold rdM; omega), hw_ne (by omega)]
    have v0 : h2 156 0 = vLw ((rRd T x1 0).1) ((rRd T x1 0).2.1 1) := by rw [c1 _ _ (by unfold rdM; omega), hw_eq ⟨rfl, rfl⟩]
    have eC : ∀ o j, ¬ rdC t' l p b o j → o < 113 → h2 o j = h o j := fun o j w w2 => by rw [e0 o j w2, a1 o j w]
    have eM : ∀ o j, ¬ rdM o j → 113 ≤ o → o ≠ 156 → h2 o j = h o j := fun o j w w2 w3 => by rw [c1 o j w, hw_ne (by omega), a1 o j (by unfold rdC; omega)]
    obtain ⟨x1', x2', x3', x4'⟩ := gx
    have xx : h2 1 15 = h2 114 0 ∧ h2 1 16 = h2 114 1 ∧ h2 1 17 = h2 114 2 := by
      rw [eC 1 15 (by unfold rdC; omega) (by omega), eC 1 16 (by unfold rdC; omega) (by omega), eC 1 17 (by unfold rdC; omega) (by omega), eM 114 0 (by unfold rdM; omega) (by omega) (by omega), eM 114 1 (by unfold rdM; omega) (by omega) (by omega), eM 114 2 (by unfold rdM; omega) (by omega) (by omega)]
      exact ⟨x2', x3', x4'⟩
    cases eB : (rRd T x1 0).1 with
    | inl q =>
      obtain ⟨a5, a6⟩ := a3 q eB
      obtain ⟨c6, c7⟩ := c4 q eB
      have gw' : gW r f N P L I T 0 := ⟨⟨wr, wl, wpl⟩, gw2, gw3, by decide, fun k x y => by omega⟩
      have tp : h2 2 5 = 0 ∧ ∀ k : Int, 0 ≤ k → k < 0 → h2 3 k = (T k + 128) % 256 - 128 := ⟨by rw [e0 _ _ (by omega)]; exact a2, fun k x y => by omega⟩
      have tm : h2 113 2 = 0 ∧ ∀ k : Int, 0 ≤ k → k < 0 → h2 115 k = T k := ⟨c3, fun k x y => by omega⟩
      exact ⟨⟨t, t', l, l', p, p', b, b', r, f, N, P, s, n, L, I, T, 0, gw', gCl_sp gw3 (fun o j a a' => by rw [e0 o j (by unfold cCel at a; omega)]; exact a6 o j (by unfold cCel at a; omega) (by omega)) tp gc, gMl_t (fun o j a a' => by rw [c7 o j (by unfold mCel at a; omega) (by unfold mCel at a; unfold mDs; omega), hw_ne (by unfold mCel at a; omega), a1 o j (by unfold mCel at a; unfold rdC; omega)]) tm gm, by rw [e0 _ _ (by omega), a5, c6], xx⟩, c2, fun _ => by rw [v0, eB], fun j => eC _ _ (by unfold rdC; omega) (by omega)⟩
    | inr q =>
      obtain ⟨a5, a6, a7, a8, a9, b1, b2, b3, b4⟩ := a4 q eB
      obtain ⟨c6, c7, c8, c9⟩ := c5 q eB
      have gw' : gW (rEnd (rRd T x1 0).2.1 (rRd T x1 0).2.2) (fun _ => 1000) 1 [] [] [] T 0 := ⟨⟨a8, wLaw1, wPlan0 _⟩, ⟨by decide, trivial⟩, by decide, by decide, fun k x y => by omega⟩
      have rf' : gRf h2 t' t l l' p p' b b' := ⟨⟨by rw [e0 _ _ (by omega)]; exact a6.1, by rw [e0 _ _ (by omega)]; exact a6.2, by rw [eC _ _ (by unfold rdC; omega) (by omega)]; exact e7, by rw [eC _ _ (by unfold rdC; omega) (by omega)]; exact e8, by rw [eC _ _ (by unfold rdC; omega) (by omega)]; exact e9, by rw [eC _ _ (by unfold rdC; omega) (by omega)]; exact e10, by rw [eC _ _ (by unfold rdC; omega) (by omega)]; exact e11, by rw [eC _ _ (by unfold rdC; omega) (by omega)]; exact e12⟩, rt2, rr.1, rr.2.1, rr.2.2⟩
      exact ⟨⟨t', t, l, l', p, p', b, b', (rEnd (rRd T x1 0).2.1 (rRd T x1 0).2.2), (fun _ => 1000), 1, [], (fun _ => -1), 0, [], [], T, 0, gw', gCl_road (fun o j a _ a' => eC o j a a') rf' (cRoad_fr (fun o j a c => e0 _ _ (by omega)) a7) ⟨by rw [e0 _ _ (by omega)]; exact a9.1, by rw [e0 _ _ (by omega)]; exact a9.2⟩ ⟨by rw [e0 _ _ (by omega)]; exact b1.1, by rw [e0 _ _ (by omega)]; exact b1.2⟩ ⟨by rw [e0 _ _ (by omega)]; exact b2.1, fun k a c => by rw [e0 _ _ (by omega)]; exact b2.2 k a c⟩ (by rw [e0 _ _ (by omega)]; exact b3) (by rw [e0 _ _ (by omega)]; exact a2) (by rw [e0 _ _ (by omega)]; exact b4) gc, gMl_road eM c7 c8 c9 c3 gm, by rw [e0 _ _ (by omega), a5, c6], xx⟩, c2, fun _ => by rw [v0, eB], fun j => eC _ _ (by unfold rdC; omega) (by omega)⟩
  · refine b_59 ht ht' hl hp hb (s60 ctp.1 (fun hc => ⟨by rw [tk_o (by omega)]; exact e6, ?_⟩) (fun n => no0 n))
    have wt : wTape T x1 := ⟨by omega, fun k a b => gw5 k a (by omega)⟩
    have ct : cTape (tk h x1) T x1 := ⟨tk_v.1, fun k a b => by rw [tk_o (by omega)]; exact ctp.2 k a (by omega)⟩
    have k := ok hc trivial
    refine s_64 wt ht' ct (by rw [tk_v.2.2.1]; omega) tk_v.2.2.2.1 (fun h' f' ps lw => ?_)
    rw [tk_v.2.2.1] at ps lw
    rw [tk_v.2.2.2.2] at ps
    have fr' : ∀ o j, ¬ (o = 2 ∧ 1 ≤ j ∧ j ≤ 6) → ¬ (t' ≤ o ∧ o ≤ t' + 19) → h' o j = h o j := fun o j w1 w2 => by rw [f' o j (by unfold cTs; omega) w2, tk_o w1]
    have t5 : h' 2 5 = 0 := by rw [f' _ _ (by unfold cTs; omega) (by omega)]; exact tk_v.2.1
    cases eB : (rRd T x1 0).1 with
    | inl q =>
      rw [eB] at ps
      obtain ⟨p1, p2, p3, _⟩ := ps
      refine b_77 ⟨fun _ => ⟨fun v => absurd rfl v, fun _ => ?_⟩, fun e4 => absurd (p1.symm.trans e4) p3⟩
      have kk := k h' ⟨fun o j w => fr' o j (by unfold rdC at w; omega) (by unfold rdC at w; omega), t5, fun q2 eq => ?_, fun q2 eq => absurd (eB.symm.trans eq) (by intro w; cases w)⟩
      · rw [eB] at kk
        rw [p1]
        exact kk
      · have := Sum.inl.inj (eB.symm.trans eq)
        subst this
        exact ⟨p2, fr'⟩
    | inr q =>
      rw [eB] at ps lw
      obtain ⟨p1, p2, p3, _⟩ := ps
      obtain ⟨cr', wd'⟩ := lw trivial
      refine b_77 ⟨fun n => absurd p1 n, fun _ => ⟨fun _ => ⟨by rw [fr' _ _ (by omega) (by omega)]; exact e5, by rw [fr' _ _ (by omega) (by omega)]; exact e6, by rw [fr' _ _ (by omega) (by omega)]; exact e7, ?_, ?_, ?_⟩, fun v => absurd v (by decide)⟩⟩
      · rw [hw_ne (by omega), hw_ne (by omega), hw_ne (by omega), hw_ne (by omega), fr' _ _ (by omega) (by omega)]; exact e9
      · rw [hw_ne (by omega), hw_ne (by omega), hw_ne (by omega), hw_ne (by omega), hw_ne (by omega), hw_ne (by omega), fr' _ _ (by omega) (by omega)]; exact e11
      · obtain ⟨S2, hS2⟩ : ∃ S2, S2 = hw (hw (hw (hw (hw (hw h' 1 5 t') 1 6 t) (l + 1) 0 1000) l 3 1) p 5 0) p 6 0 := ⟨_, rfl⟩
        rw [← hS2]
        have g2 : ∀ o j, ¬ (o = 1 ∧ (j = 5 ∨ j = 6)) → ¬ (o = l ∧ j = 3) → ¬ (o = l + 1 ∧ j = 0) → ¬ (o = p ∧ (j = 5 ∨ j = 6)) → S2 o j = h' o j := fun o j w1 w2 w3 w4 => by rw [hS2, hw_ne (by omega), hw_ne (by omega), hw_ne (by omega), hw_ne (by omega), hw_ne (by omega), hw_ne (by omega)]
        refine b_87 hb (s_9 hb2 (by decide) (fun h3 f3 a3 => ⟨?_, ?_⟩))
        · rw [hw_ne (by omega), f3 _ _ (by omega), hS2, hw_ne (by omega), hw_ne (by omega), hw_ne (by omega), hw_ne (by omega), hw_ne (by omega), hw_eq ⟨rfl, rfl⟩]
        · have g3 : ∀ o j, ¬ (o = b ∧ j = 1) → o ≠ b + 1 → ¬ (o = 1 ∧ j = 14) → ¬ (o = 11 ∧ j = 8) → (hw (hw (hw h3 b 1 0) 1 14 0) 11 8 0) o j = S2 o j := fun o j w1 w2 w3 w4 => by rw [hw_ne (by omega), hw_ne (by omega), hw_ne (by omega), f3 o j w2]
          have cr2 : cRoad t' (hw (hw (hw h3 b 1 0) 1 14 0) 11 8 0) (rEnd (rRd T x1 0).2.1 (rRd T x1 0).2.2) := cRoad_fr (fun o j a c => by rw [g3 _ _ (by omega) (by omega) (by omega) (by omega), g2 _ _ (by omega) (by omega) (by omega) (by omega)]) cr'
          have kk := k (hw (hw (hw h3 b 1 0) 1 14 0) 11 8 0) ⟨fun o j w => ?_, ?_, fun q eq => absurd (eB.symm.trans eq) (by intro w; cases w), fun q2 eq => ⟨?_, ⟨?_, ?_⟩, cr2, rEnd_w wd', ⟨?_, ?_⟩, ⟨?_, ?_⟩, ⟨?_, fun k a c => ?_⟩, ?_, hw_eq ⟨rfl, rfl⟩⟩⟩
          · rw [eB] at kk
            rw [cr_d cr2]
            exact kk
          · unfold rdC at w
            rw [g3 _ _ (by omega) (by omega) (by omega) (by omega), g2 _ _ (by omega) (by omega) (by omega) (by omega), fr' o j (by omega) (by omega)]
          · rw [g3 _ _ (by omega) (by omega) (by omega) (by omega), g2 _ _ (by omega) (by omega) (by omega) (by omega)]; exact t5
          · rw [g3 _ _ (by omega) (by omega) (by omega) (by omega), g2 _ _ (by omega) (by omega) (by omega) (by omega)]; exact p2
          · rw [g3 _ _ (by omega) (by omega) (by omega) (by omega), hS2, hw_ne (by omega), hw_ne (by omega), hw_ne (by omega), hw_ne (by omega), hw_ne (by omega), hw_eq ⟨rfl, rfl⟩]
          · rw [g3 _ _ (by omega) (by omega) (by omega) (by omega), hS2, hw_ne (by omega), hw_ne (by omega), hw_ne (by omega), hw_ne (by omega), hw_eq ⟨rfl, rfl⟩]
          · rw [g3 _ _ (by omega) (by omega) (by omega) (by omega), hS2, hw_ne (by omega), hw_ne (by omega), hw_eq ⟨rfl, rfl⟩]
          · rw [g3 _ _ (by omega) (by omega) (by omega) (by omega), hS2, hw_ne (by omega), hw_ne (by omega), hw_ne (by omega), hw_eq ⟨rfl, rfl⟩]
          · rw [g3 _ _ (by omega) (by omega) (by omega) (by omega), hS2, hw_ne (by omega), hw_eq ⟨rfl, rfl⟩]
          · rw [g3 _ _ (by omega) (by omega) (by omega) (by omega), hS2, hw_eq ⟨rfl, rfl⟩]
          · rw [hw_ne (by omega), hw_ne (by omega), hw_eq ⟨rfl, rfl⟩]
          · rw [hw_ne (by omega), hw_ne (by omega), hw_ne (by omega)]; exact a3 k a c
          · rw [hw_ne (by omega), hw_eq ⟨rfl, rfl⟩]
  · have gm' := gM_o fr gm
    obtain ⟨mr, ml, mp, mb, mlg, mim, mtp, mz, mcw⟩ := gm'.2
    have mm : H 113 2 = m := by
      have := mtp.1
      rw [hw_ne (by omega)] at this
      exact this
    refine b_221 ?_
    rw [mm]
    refine ⟨fun q => b_221_22 (b_221_23 (f222 (by decide) (by decide) h00 ⟨fun v => absurd rfl v, fun _ => no0 (by omega)⟩)), fun q => ⟨fun q2 => b_221_22 (b_221_23 (f222 (by decide) (by decide) h00 ⟨fun v => absurd rfl v, fun _ => no0 (by omega)⟩)), fun q2 => b_221_23 (t222 (by decide) (by decide) h00 ⟨fun _ => ?_, fun v => absurd v (by decide)⟩)⟩⟩
    have hc : 0 ≤ x1 ∧ x1 ≤ m ∧ x1 ≤ 600 := by omega
    have wt : wTape T x1 := ⟨by omega, fun k a b => gw5 k a (by omega)⟩
    have k := ok hc trivial
    have mv := mk6_v (h := hw H 113 0 0) (x := x1)
    show zCl _ 216 _ c (mk6 (hw H 113 0 0) x1) _ _
    refine s_216 (fun H3 f3 dr cn => ?_)
    have fH : ∀ o j, ¬ (o = 113 ∧ (j = 0 ∨ (2 ≤ j ∧ j ≤ 8))) → ¬ mDs o j → H3 o j = H o j := fun o j w w2 => by rw [f3 o j w2, mk6_o (by omega), hw_ne (by omega)]
    have z3 : H3 113 0 = 0 := by rw [f3 _ _ (by unfold mDs; omega), mk6_o (by omega), hw_eq ⟨rfl, rfl⟩]
    have z2 : H3 113 2 = 0 := by rw [f3 _ _ (by unfold mDs; omega)]; exact mv.1
    have mt : mTape H3 T x1 := ⟨by rw [f3 _ _ (by unfold mDs; omega)]; exact mv.2.2.1, fun k a b => by rw [f3 _ _ (by unfold mDs; omega), mk6_o (by omega)]; exact mtp.2 k a (by omega)⟩
    refine s_221_44 (a0 := 0) wt mt dr cn (by rw [f3 _ _ (by unfold mDs; omega)]; exact mv.2.2.2.2.1) (by rw [f3 _ _ (by unfold mDs; omega)]; exact mv.2.2.2.1) (by omega) (fun h' i2 f' ps st => b_221_158 ?_)
    have fr' : ∀ o j, ¬ (o = 113 ∧ (j = 0 ∨ (2 ≤ j ∧ j ≤ 8))) → ¬ mDs o j → h' o j = H o j := fun o j w1 w2 => by rw [f' o j (by unfold mTs; omega) w2, fH o j w1 w2]
    have y0 : h' 113 0 = 0 := by rw [f' _ _ (by unfold mTs; omega) (by unfold mDs; omega)]; exact z3
    have y2 : h' 113 2 = 0 := by rw [f' _ _ (by unfold mTs; omega) (by unfold mDs; omega)]; exact z2
    cases eB : (rRd T x1 0).1 with
    | inl q =>
      rw [eB] at ps
      obtain ⟨p1, p2, p3, p4⟩ := ps
      refine s240 (fun n => ⟨fun _ => b_221_179 ?_, fun e5 => ?_⟩) (fun e5 => absurd (p2.symm.trans e5) p3)
      · have kk := k (hw h' 113 8 (h' 113 5)) ⟨fun o j w => by rw [hw_ne (by unfold rdM at w; omega), fr' o j (by unfold rdM at w; omega) (by unfold rdM at w; unfold mDs; omega)], by rw [hw_ne (by omega)]; exact y0, by rw [hw_ne (by omega)]; exact y2, fun q2 eq => ?_, fun q2 eq => absurd (eB.symm.trans eq) (by intro w; cases w)⟩
        · rw [eB] at kk
          rw [p1]
          exact kk
        · have := Sum.inl.inj (eB.symm.trans eq)
          subst this
          exact ⟨by rw [hw_eq ⟨rfl, rfl⟩]; exact p2, fun o j w w2 => by rw [hw_ne (by omega), fr' o j w w2]⟩
      · rw [hw_ne (by omega)] at e5
        exact absurd e5 n
    | inr q =>
      rw [eB] at ps st
      obtain ⟨p1, p2, _⟩ := ps
      obtain ⟨dr', cn', wd'⟩ := st trivial
      refine s240 (fun n => absurd p1 n) (fun e5 => ⟨fun n => ?_, fun _ => ?_⟩)
      · rw [hw_ne (by omega)] at n
        exact absurd p1 n
      · refine s_217 (mDr_fr (fun o j a => by rw [hw_ne (by omega)]) dr') (mCn_fr (fun j a c => by rw [hw_ne (by omega)]) cn') wd' (fun h4 f4 m4 n4 b4 => b_221_179 ?_)
        have kk := k h4 ⟨fun o j w => ?_, ?_, ?_, fun q2 eq => absurd (eB.symm.trans eq) (by intro w; cases w), fun q2 eq => ⟨?_, m4, n4, b4⟩⟩
        · rw [eB] at kk
          rw [cn'.2.1]
          exact kk
        · rw [f4 o j (by unfold rdM at w; unfold mSt; omega), hw_ne (by unfold rdM at w; omega), fr' o j (by unfold rdM at w; omega) (by unfold rdM at w; unfold mDs; omega)]
        · rw [f4 _ _ (by unfold mSt; omega), hw_ne (by omega)]; exact y0
        · rw [f4 _ _ (by unfold mSt; omega), hw_ne (by omega)]; exact y2
        · rw [f4 _ _ (by unfold mSt; omega), hw_eq ⟨rfl, rfl⟩]; exact p1
