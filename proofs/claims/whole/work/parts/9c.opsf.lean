/-! each call on both sides: a book taken from the bytes -/
def gRr (t t' l l' p p' : Int) : Prop := (t = 30 ∧ t' = 50 ∨ t = 50 ∧ t' = 30) ∧ (l = 70 ∧ l' = 74 ∨ l = 74 ∧ l' = 70) ∧ (p = 78 ∧ p' = 84 ∨ p = 84 ∧ p' = 78)
def tk (h : zH) (x : Int) : zH := hw (hw (hw (hw (hw (hw h 2 1 x) 2 5 0) 2 2 0) 2 3 0) 2 4 0) 2 6 (-1)
theorem tk_o {h : zH} {x o j : Int} (q : ¬ (o = 2 ∧ 1 ≤ j ∧ j ≤ 6)) : tk h x o j = h o j := by
  unfold tk
  rw [hw_ne (by omega), hw_ne (by omega), hw_ne (by omega), hw_ne (by omega), hw_ne (by omega), hw_ne (by omega)]
theorem tk_v {h : zH} {x : Int} : tk h x 2 1 = x ∧ tk h x 2 5 = 0 ∧ tk h x 2 2 = 0 ∧ tk h x 2 4 = 0 ∧ tk h x 2 6 = -1 := by
  unfold tk
  refine ⟨?_, ?_, ?_, ?_, hw_eq ⟨rfl, rfl⟩⟩
  · rw [hw_ne (by omega), hw_ne (by omega), hw_ne (by omega), hw_ne (by omega), hw_ne (by omega), hw_eq ⟨rfl, rfl⟩]
  · rw [hw_ne (by omega), hw_ne (by omega), hw_ne (by omega), hw_ne (by omega), hw_eq ⟨rfl, rfl⟩]
  · rw [hw_ne (by omega), hw_ne (by omega), hw_ne (by omega), hw_eq ⟨rfl, rfl⟩]
  · rw [hw_ne (by omega), hw_eq ⟨rfl, rfl⟩]
def mk6 (h : zH) (x : Int) : zH := hw (hw (hw (hw (hw (hw h 113 2 0) 113 8 (-1)) 113 3 x) 113 4 0) 113 5 (-1)) 113 7 0
theorem mk6_o {h : zH} {x o j : Int} (q : ¬ (o = 113 ∧ (j = 2 ∨ j = 3 ∨ j = 4 ∨ j = 5 ∨ j = 7 ∨ j = 8))) : mk6 h x o j = h o j := by
  unfold mk6
  rw [hw_ne (by omega), hw_ne (by omega), hw_ne (by omega), hw_ne (by omega), hw_ne (by omega), hw_ne (by omega)]
theorem mk6_v {h : zH} {x : Int} : mk6 h x 113 2 = 0 ∧ mk6 h x 113 8 = -1 ∧ mk6 h x 113 3 = x ∧ mk6 h x 113 4 = 0 ∧ mk6 h x 113 5 = -1 ∧ mk6 h x 113 7 = 0 := by
  unfold mk6
  refine ⟨?_, ?_, ?_, ?_, ?_, hw_eq ⟨rfl, rfl⟩⟩
  · rw [hw_ne (by omega), hw_ne (by omega), hw_ne (by omega), hw_ne (by omega), hw_ne (by omega), hw_eq ⟨rfl, rfl⟩]
  · rw [hw_ne (by omega), hw_ne (by omega), hw_ne (by omega), hw_ne (by omega), hw_eq ⟨rfl, rfl⟩]
  · rw [hw_ne (by omega), hw_ne (by omega), hw_ne (by omega), hw_eq ⟨rfl, rfl⟩]
  · rw [hw_ne (by omega), hw_ne (by omega), hw_eq ⟨rfl, rfl⟩]
  · rw [hw_ne (by omega), hw_eq ⟨rfl, rfl⟩]
theorem s60 {d c : Nat} {h : zH} {R : Int → Nat → zH → Prop} {X : Nat → Nat → zH → Prop} {x lim m : Int} (hm : h 2 5 = m) (k1 : 0 ≤ x ∧ x ≤ m ∧ x ≤ lim → R 0 c (tk h x)) (k0 : ¬ (0 ≤ x ∧ x ≤ m ∧ x ≤ lim) → X 1 (c + 1) (hw h 1 16 (w32 (h 1 16 + 1)))) : zCl (d + 2) 60 [(2, 1), (0, x), (0, lim)] c h R X := by
  refine b_60 (s_61 (fun lo hi => k1 ?_) (fun n => k0 ?_))
  · rw [hm] at hi
    split at hi <;> omega
  · rw [hm] at n
    split at n <;> omega
theorem s240 {d c : Nat} {h : zH} {R : Int → Nat → zH → Prop} {X : Nat → Nat → zH → Prop} {x : Int} (k0 : h 113 5 ≠ -1 → R (w32 (h 113 6 - 10)) c (hw h 113 8 (h 113 5))) (k1 : h 113 5 = -1 → R x c (hw h 113 8 (h 113 5))) : zCl (d + 1) 240 [(2, 113), (0, x)] c h R X := by
  refine b_240 (b_224 ?_)
  rw [hw_ne (o' := 113) (by omega)]
  refine ⟨fun n => ⟨fun _ => ?_, fun v => absurd rfl v⟩, fun e => ⟨fun v => absurd v (by decide), fun _ => k1 e⟩⟩
  rw [hw_ne (o' := 113) (k' := 6) (by omega)]
  exact k0 n
theorem mBl_r {T : Int → Int} {n a : Int} {s : Int → Int} {k v y : Int} (h0 : 0 ≤ a) (h : a ≤ n) (e : mBl T n a s = .inr (k, v, y)) : 0 ≤ y ∧ y ≤ n := by
  have b1 := nBE (T := T) h
  have b2 := nBE (T := T) b1.2.2
  have b3 := nBE (T := T) b2.2.2
  unfold mBl at e
  split at e
  · cases e
  · split at e
    · split at e
      · cases e
      · split at e
        · cases e
        · rename_i e2
          have xn := xF_n e2
          injection e with e
          injection e with e3 e4
          injection e4 with e4 e5
          omega
    · cases e
theorem mBk_K {T : Int → Int} {n : Int} : ∀ (m : Nat) (a : Int) (s : Int → Int) (c : Int) {K PL : Int}, 0 ≤ a → a ≤ n → mBk T n m a s c = .inl (K, PL) → K = 1 ∨ K = 2
  | 0, _, _, _, _, _, _, _, e => by cases e
  | m + 1, a, s, c, K, PL, h0, h, e => by
    rw [mBk] at e
    split at e
    · split at e
      · rename_i f e1
        injection e with e
        subst e
        exact (mBl_K h0 h e1).1
      · rename_i x e1
        obtain ⟨x1, x2, x3⟩ := x
        have r := mBl_r h0 h e1
        exact mBk_K m _ _ _ r.1 r.2 e
    · cases e
def vBk (q : (Int × Int) ⊕ ((Int → Int) × Int)) : Int := match q with
  | .inl f => w32 (f.1 - 10)
  | .inr s => s.2
theorem gCl_b {h h' : zH} {t t' l l' p p' b b' : Int} {r : zH} {f : Int → Int} {N : Nat} {P : List (Int × Int)} {s : Int → Int} {n : Int} {L : gLg} {I : gIm} {T : Int → Int} {m : Int} {s' : Int → Int} {n' m' : Int} (hI : I.length ≤ 3) (fr : ∀ o j, cCel o j → ¬ ((o = 2 ∧ j = 5) ∨ (o = 1 ∧ (j = 11 ∨ j = 12)) ∨ o = b' ∨ o = b' + 1) → h' o j = h o j) (q1 : gRf h' t t' l l' p p' b' b) (q5 : cBook b' h' s' n') (q8 : h' 2 5 = m' ∧ ∀ k : Int, 0 ≤ k → k < m' → h' 3 k = (T k + 128) % 256 - 128) (w : gCl h t t' l l' p p' b b' r f N P s n L I T m) : gCl h' t t' l l' p p' b' b r f N P s' n' L I T m' := by
  obtain ⟨w1, w2, w3, w4, w5, w6, w7, w8, w9, w10⟩ := w
  have w1' := w1
  obtain ⟨_, e1, e2, e3, e4⟩ := w1'
  have r1 : 30 ≤ t ∧ t ≤ 50 ∧ 30 ≤ t' ∧ t' ≤ 50 := by clear e2 e3 e4; omega
  have r2 : 70 ≤ l ∧ l ≤ 74 ∧ 70 ≤ l' ∧ l' ≤ 74 := by clear e1 e3 e4; omega
  have r3 : 78 ≤ p ∧ p ≤ 84 ∧ 78 ≤ p' ∧ p' ≤ 84 := by clear e1 e2 e4; omega
  have r4 : 90 ≤ b ∧ b ≤ 92 ∧ 90 ≤ b' ∧ b' ≤ 92 := by clear e1 e2 e3; omega
  unfold cCel at fr
  exact ⟨q1, cRoad_fr (fun o j a c => fr _ _ (by clear e2 e3 e4; omega) (by clear e2 e3 e4; omega)) w2, cLaw_fr (fun o j a => fr _ _ (by clear e1 e3 e4; omega) (by clear e1 e3 e4; omega)) w3, cPlan_fr (fun o j a c => fr _ _ (by clear e1 e2 e4; omega) (by clear e1 e2 e4; omega)) w4, q5, ⟨by rw [fr _ _ (by clear e1 e2 e4; omega) (by clear e1 e2 e4; omega)]; exact w6.1, cLogR_fr (fun o j a c _ _ => fr _ _ (by clear e1 e2 e4; omega) (by clear e1 e2 e4; omega)) w6.2⟩, ⟨by rw [fr _ _ (by clear e1 e2 e3 e4; omega) (by clear e1 e2 e3 e4; omega)]; exact w7.1, cImR_fr (fun o j a c => fr _ _ (by clear e1 e2 e3 e4; omega) (by clear e1 e2 e3 e4; omega)) w7.2⟩, q8, ⟨fun p a c => by rw [fr _ _ (by clear e1 e2 e3 e4; omega) (by clear e1 e2 e3 e4; omega)]; exact w9.1 p a c, by rw [fr _ _ (by clear e1 e2 e3 e4; omega) (by clear e1 e2 e3 e4; omega)]; exact w9.2.1, by rw [fr _ _ (by clear e1 e2 e3 e4; omega) (by clear e1 e2 e3 e4; omega)]; exact w9.2.2⟩, fun e => cBs_fr ⟨fr _ _ (by clear e1 e2 e3 e4; omega) (by clear e1 e2 e3 e4; omega), fr _ _ (by clear e1 e2 e3 e4; omega) (by clear e1 e2 e3 e4; omega)⟩ (fun i => fr _ _ (by clear e1 e2 e3 e4; omega) (by clear e1 e2 e3 e4; omega)) (w10 (by rw [fr _ _ (by clear e1 e2 e3 e4; omega) (by clear e1 e2 e3 e4; omega)] at e; exact e))⟩
theorem gMl_b {h h' : zH} {r : zH} {f : Int → Int} {N : Nat} {P : List (Int × Int)} {s : Int → Int} {n : Int} {L : gLg} {I : gIm} {T : Int → Int} {m : Int} {s' : Int → Int} {n' m' : Int} (fr : ∀ o j, mCel o j → ¬ (o = 141 ∨ (o = 113 ∧ (j = 2 ∨ j = 50))) → h' o j = h o j) (q4 : mBook h' s' n') (q7 : h' 113 2 = m' ∧ ∀ k : Int, 0 ≤ k → k < m' → h' 115 k = T k) (w : gMl h r f N P s n L I T m) : gMl h' r f N P s' n' L I T m' := by
  obtain ⟨w1, w2, w3, w4, w5, w6, w7, w8, w9⟩ := w
  unfold mCel at fr
  exact ⟨mRoad_fr (fun o j a => fr _ _ (by unfold mRo at a; omega) (by unfold mRo at a; omega)) w1, mLaw_fr (fun o j a => fr _ _ (by unfold mLo at a; omega) (by unfold mLo at a; omega)) w2, mPlan_fr (fun o j a => fr _ _ (by omega) (by omega)) w3, q4, ⟨by rw [fr _ _ (by omega) (by omega)]; exact w5.1, mLogR_f (fun j => fr _ _ (by omega) (by omega)) w5.2⟩, ⟨by rw [fr _ _ (by omega) (by omega)]; exact w6.1, mImR_f (fun j => fr _ _ (by omega) (by omega)) w6.2⟩, q7, fun i a c => by rw [fr _ _ (by omega) (by omega)]; exact w8 i a c, by unfold mCW at w9 ⊢; rw [fr _ _ (by omega) (by omega)]; exact w9⟩
theorem gCl_sp {h h' : zH} {t t' l l' p p' b b' : Int} {r : zH} {f : Int → Int} {N : Nat} {P : List (Int × Int)} {s : Int → Int} {n : Int} {L : gLg} {I : gIm} {T : Int → Int} {m : Int} {m' : Int} (hI : I.length ≤ 3) (fr : ∀ o j, cCel o j → ¬ ((o = 2 ∧ j = 5) ∨ (t' ≤ o ∧ o ≤ t' + 19) ∨ (l' ≤ o ∧ o ≤ l' + 3) ∨ (p' ≤ o ∧ o ≤ p' + 5) ∨ (b' ≤ o ∧ o ≤ b' + 1)) → h' o j = h o j) (q8 : h' 2 5 = m' ∧ ∀ k : Int, 0 ≤ k → k < m' → h' 3 k = (T k + 128) % 256 - 128) (w : gCl h t t' l l' p p' b b' r f N P s n L I T m) : gCl h' t t' l l' p p' b b' r f N P s n L I T m' := by
  obtain ⟨w1, w2, w3, w4, w5, w6, w7, w8, w9, w10⟩ := w
  have w1' := w1
  obtain ⟨_, e1, e2, e3, e4⟩ := w1'
  have r1 : 30 ≤ t ∧ t ≤ 50 ∧ 30 ≤ t' ∧ t' ≤ 50 := by clear e2 e3 e4; omega
  have r2 : 70 ≤ l ∧ l ≤ 74 ∧ 70 ≤ l' ∧ l' ≤ 74 := by clear e1 e3 e4; omega
  have r3 : 78 ≤ p ∧ p ≤ 84 ∧ 78 ≤ p' ∧ p' ≤ 84 := by clear e1 e2 e4; omega
  have r4 : 90 ≤ b ∧ b ≤ 92 ∧ 90 ≤ b' ∧ b' ≤ 92 := by clear e1 e2 e3; omega
  unfold cCel at fr
  exact ⟨gRf_fr (fun j a c => fr _ _ (by clear e1 e2 e3 e4; omega) (by clear e1 e2 e3 e4; omega)) w1, cRoad_fr (fun o j a c => fr _ _ (by clear e2 e3 e4; omega) (by clear e2 e3 e4; omega)) w2, cLaw_fr (fun o j a => fr _ _ (by clear e1 e3 e4; omega) (by clear e1 e3 e4; omega)) w3, cPlan_fr (fun o j a c => fr _ _ (by clear e1 e2 e4; omega) (by clear e1 e2 e4; omega)) w4, cBook_fr (fun o j a => fr _ _ (by clear e1 e2 e3; omega) (by clear e1 e2 e3; omega)) w5, ⟨by rw [fr _ _ (by clear e1 e2 e4; omega) (by clear e1 e2 e4; omega)]; exact w6.1, cLogR_fr (fun o j a c _ _ => fr _ _ (by clear e1 e2 e4; omega) (by clear e1 e2 e4; omega)) w6.2⟩, ⟨by rw [fr _ _ (by clear e1 e2 e3 e4; omega) (by clear e1 e2 e3 e4; omega)]; exact w7.1, cImR_fr (fun o j a c => fr _ _ (by clear e1 e2 e3 e4; omega) (by clear e1 e2 e3 e4; omega)) w7.2⟩, q8, ⟨fun p a c => by rw [fr _ _ (by clear e1 e2 e3 e4; omega) (by clear e1 e2 e3 e4; omega)]; exact w9.1 p a c, by rw [fr _ _ (by clear e1 e2 e3 e4; omega) (by clear e1 e2 e3 e4; omega)]; exact w9.2.1, by rw [fr _ _ (by clear e1 e2 e3 e4; omega) (by clear e1 e2 e3 e4; omega)]; exact w9.2.2⟩, fun e => cBs_fr ⟨fr _ _ (by clear e1 e2 e3 e4; omega) (by clear e1 e2 e3 e4; omega), fr _ _ (by clear e1 e2 e3 e4; omega) (by clear e1 e2 e3 e4; omega)⟩ (fun i => fr _ _ (by clear e1 e2 e3 e4; omega) (by clear e1 e2 e3 e4; omega)) (w10 (by rw [fr _ _ (by clear e1 e2 e3 e4; omega) (by clear e1 e2 e3 e4; omega)] at e; exact e))⟩
theorem o_4 {d c : Nat} {X : Nat → Nat → zH → Prop} {h : zH} {x1 : Int} (g : gI h) : zCl (d + 59) 107 [(2, 1), (0, x1), (2, 156)] c h (fun k c h1 => (∀ j, h1 0 j = h 0 j) ∧ zCl (d + 59) 252 [(2, 113), (0, x1)] c h1 (fun b _ h2 => gP h k b h2) X) X := by
  obtain ⟨t, t', l, l', p, p', b, b', r, f, N, P, s, n, L, I, T, m, gw, gc, gm, gx⟩ := id g
  obtain ⟨⟨wr, wl, wpl⟩, gw2, gw3, gw4, gw5⟩ := id gw
  obtain ⟨rf, cr, cl, cp, cb, clg, cim, ctp, czr, cca⟩ := id gc
  obtain ⟨⟨e5, e6, e7, e8, e9, e10, e11, e12⟩, rt, rl, rp, rb⟩ := rf
  have ht : zIsR t := by unfold zIsR; omega
  have hl : zIsL l := by unfold zIsL; omega
  have hp : zIsP p := by unfold zIsP; omega
  have hb : zIsB b := by unfold zIsB; omega
  have wd := wr_d wr
  have wq := wr_p wr
  have wn := wr_n wr
  have wb := wr_b wr
  have wc := wr_c wr
  have wdd : wD r f N P := ⟨wr, wl, wpl⟩
  have hb' : zIsB b' := by clear rt rl rp; unfold zIsB; omega
  have rb' : 90 ≤ b ∧ b ≤ 92 ∧ 90 ≤ b' ∧ b' ≤ 92 := by clear rt rl rp; omega
  have rb2 : (b' = 90 ∧ b = 92) ∨ (b' = 92 ∧ b = 90) := by clear rt rl rp; omega
  have rr : gRr t t' l l' p p' := ⟨rt, rl, rp⟩
  clear rt rl rp rb
  refine combG (c := c) (c0 := 0 ≤ x1 ∧ x1 ≤ m ∧ x1 ≤ 40) (c1 := True) (V := vBk (mBk T x1 4 0 (fun _ => -1) 0)) (QC := (fun h' => (∀ o j, ¬ (o = 2 ∧ 1 ≤ j ∧ j ≤ 6) → o ≠ b' → o ≠ b' + 1 → ¬ (o = 1 ∧ (j = 11 ∨ j = 12)) → h' o j = h o j) ∧ h' 2 5 = 0 ∧ (∀ q, mBk T x1 4 0 (fun _ => -1) 0 = .inl q → h' 2 6 = q.2 ∧ h' 1 11 = b ∧ h' 1 12 = b') ∧ (∀ q, mBk T x1 4 0 (fun _ => -1) 0 = .inr q → h' 2 6 = -1 ∧ h' 1 11 = b' ∧ h' 1 12 = b ∧ cBook b' h' q.1 q.2))) (QM := (fun H h' => (∀ o j, ¬ (o = 113 ∧ (j = 0 ∨ (2 ≤ j ∧ j ≤ 8) ∨ j = 50)) → o ≠ 140 → o ≠ 141 → h' o j = H o j) ∧ h' 113 0 = 0 ∧ h' 113 2 = 0 ∧ (∀ q, mBk T x1 4 0 (fun _ => -1) 0 = .inl q → h' 113 8 = q.2 ∧ h' 113 50 = H 113 50 ∧ ∀ k, h' 141 k = H 141 k) ∧ (∀ q, mBk T x1 4 0 (fun _ => -1) 0 = .inr q → h' 113 8 = -1 ∧ mBook h' q.1 q.2))) 1 1 (fun R X => zCl (d + 58) 108 [(2, 1), (0, x1)] c h R X) (fun c H R => zCl (d + 59) 252 [(2, 113), (0, x1)] c H R X) (fun R => zCl (d + 59) 107 [(2, 1), (0, x1), (2, 156)] c h R X) g (by decide) (fun h' q o j a => q.1 o j (by omega) (by omega) (by omega) (by omega)) (fun h0 hc h1 h2 q1 q2 => ?_) (fun R' z => b_107 (zCl_mono (fun _ _ _ w => w) (fun E c h w => w.elim id (fun w => absurd (fun _ => trivial) w.2.1)) z)) (fun R' X' ok no0 no1 => ?_) (fun c H R' fr ok no0 no1 => ?_) (by first | exact Or.inl rfl | exact Or.inr trivial)
  · obtain ⟨a1, a2, a3, a4⟩ := q1
    obtain ⟨c1, c2, c3, c4, c5⟩ := q2
    have e0 : ∀ o j, o < 113 → h2 o j = h1 o j := fun o j q => by rw [c1 o j (by omega) (by omega) (by omega), hw_ne (by omega)]
    have e : ∀ o j, ¬ (o = 2 ∧ 1 ≤ j ∧ j ≤ 6) → o ≠ b' → o ≠ b' + 1 → ¬ (o = 1 ∧ (j = 11 ∨ j = 12)) → ¬ (o = 113 ∧ (j = 0 ∨ (2 ≤ j ∧ j ≤ 8) ∨ j = 50)) → o ≠ 140 → o ≠ 141 → ¬ (o = 156 ∧ j = 0) → h2 o j = h o j := fun o j w1 w2 w3 w4 w5 w6 w7 w8 => by rw [c1 o j w5 w6 w7, hw_ne (by omega), a1 o j w1 w2 w3 w4]
    have gw' : gW r f N P L I T 0 := ⟨⟨wr, wl, wpl⟩, gw2, gw3, by decide, fun k x y => by omega⟩
    have v0 : h2 156 0 = vBk (mBk T x1 4 0 (fun _ => -1) 0) := by rw [c1 _ _ (by omega) (by omega) (by omega), hw_eq ⟨rfl, rfl⟩]
    have tp : h2 2 5 = 0 ∧ ∀ k : Int, 0 ≤ k → k < 0 → h2 3 k = (T k + 128) % 256 - 128 := ⟨by rw [e0 _ _ (by omega)]; exact a2, fun k x y => by omega⟩
    have tm : h2 113 2 = 0 ∧ ∀ k : Int, 0 ≤ k → k < 0 → h2 115 k = T k := ⟨c3, fun k x y => by omega⟩
    obtain ⟨x1', x2', x3', x4'⟩ := gx
    have xx : h2 1 15 = h2 114 0 ∧ h2 1 16 = h2 114 1 ∧ h2 1 17 = h2 114 2 := by
      rw [e 1 15 (by omega) (by omega) (by omega) (by omega) (by omega) (by omega) (by omega) (by omega), e 1 16 (by omega) (by omega) (by omega) (by omega) (by omega) (by omega) (by omega) (by omega), e 1 17 (by omega) (by omega) (by omega) (by omega) (by omega) (by omega) (by omega) (by omega), e 114 0 (by omega) (by omega) (by omega) (by omega) (by omega) (by omega) (by omega) (by omega), e 114 1 (by omega) (by omega) (by omega) (by omega) (by omega) (by omega) (by omega) (by omega), e 114 2 (by omega) (by omega) (by omega) (by omega) (by omega) (by omega) (by omega) (by omega)]
      exact ⟨x2', x3', x4'⟩
    cases eB : mBk T x1 4 0 (fun _ => -1) 0 with
    | inl q =>
      obtain ⟨a5, a6, a7⟩ := a3 q eB
      obtain ⟨c6, c7, c8⟩ := c4 q eB
      have e' : ∀ o j, ¬ (o = 2 ∧ 1 ≤ j ∧ j ≤ 6) → o ≠ b' → o ≠ b' + 1 → ¬ (o = 113 ∧ (j = 0 ∨ (2 ≤ j ∧ j ≤ 8))) → o ≠ 140 → ¬ (o = 156 ∧ j = 0) → h2 o j = h o j := fun o j w1 w2 w3 w4 w5 w6 => by
        by_cases z1 : o = 1 ∧ (j = 11 ∨ j = 12)
        · obtain ⟨z2, z3⟩ := z1
          subst z2
          rcases z3 with z | z <;> subst z
          · rw [e0 _ _ (by omega), a6, e11]
          · rw [e0 _ _ (by omega), a7, e12]
        · by_cases z4 : o = 113 ∧ j = 50
          · obtain ⟨z5, z6⟩ := z4
            subst z5
            subst z6
            rw [c7, hw_ne (by omega), a1 _ _ (by omega) (by omega) (by omega) (by omega)]
          · by_cases z7 : o = 141
            · subst z7
              rw [c8, hw_ne (by omega), a1 _ _ (by omega) (by omega) (by omega) (by omega)]
            · exact e o j w1 w2 w3 z1 (by omega) w5 z7 w6
      exact ⟨⟨t, t', l, l', p, p', b, b', r, f, N, P, s, n, L, I, T, 0, gw', gCl_sp gw3 (fun o j a a' => e' o j (by unfold cCel at a; omega) (by unfold cCel at a; omega) (by unfold cCel at a; omega) (by unfold cCel at a; omega) (by unfold cCel at a; omega) (by unfold cCel at a; omega)) tp gc, gMl_t (fun o j a a' => e' o j (by unfold mCel at a; omega) (by unfold mCel at a; omega) (by unfold mCel at a; omega) (by unfold mCel at a; omega) (by unfold mCel at a; omega) (by unfold mCel at a; omega)) tm gm, by rw [e0 _ _ (by omega), a5, c6], xx⟩, c2, fun _ => by rw [v0, eB], fun j => e' _ _ (by omega) (by omega) (by omega) (by omega) (by omega) (by omega)⟩
    | inr q =>
      obtain ⟨a5, a6, a7, a8⟩ := a4 q eB
      obtain ⟨c6, c7⟩ := c5 q eB
      have rf' : gRf h2 t t' l l' p p' b' b := ⟨⟨by rw [e _ _ (by omega) (by omega) (by omega) (by omega) (by omega) (by omega) (by omega) (by omega)]; exact e5, by rw [e _ _ (by omega) (by omega) (by omega) (by omega) (by omega) (by omega) (by omega) (by omega)]; exact e6, by rw [e _ _ (by omega) (by omega) (by omega) (by omega) (by omega) (by omega) (by omega) (by omega)]; exact e7, by rw [e _ _ (by omega) (by omega) (by omega) (by omega) (by omega) (by omega) (by omega) (by omega)]; exact e8, by rw [e _ _ (by omega) (by omega) (by omega) (by omega) (by omega) (by omega) (by omega) (by omega)]; exact e9, by rw [e _ _ (by omega) (by omega) (by omega) (by omega) (by omega) (by omega) (by omega) (by omega)]; exact e10, by rw [e0 _ _ (by omega)]; exact a6, by rw [e0 _ _ (by omega)]; exact a7⟩, rr.1, rr.2.1, rr.2.2, rb2⟩
      exact ⟨⟨t, t', l, l', p, p', b', b, r, f, N, P, q.1, q.2, L, I, T, 0, gw', gCl_b gw3 (fun o j a a' => e o j (by unfold cCel at a; omega) (by unfold cCel at a; omega) (by unfold cCel at a; omega) (by unfold cCel at a; omega) (by unfold cCel at a; omega) (by unfold cCel at a; omega) (by unfold cCel at a; omega) (by unfold cCel at a; omega)) rf' (cBook_fr (fun o j a => e0 _ _ (by omega)) a8) tp gc, gMl_b (fun o j a a' => e o j (by unfold mCel at a; omega) (by unfold mCel at a; omega) (by unfold mCel at a; omega) (by unfold mCel at a; omega) (by unfold mCel at a; omega) (by unfold mCel at a; omega) (by unfold mCel at a; omega) (by unfold mCel at a; omega)) c7 tm gm, by rw [e0 _ _ (by omega), a5, c6], xx⟩, c2, fun _ => by rw [v0, eB], fun j => e _ _ (by omega) (by omega) (by omega) (by omega) (by omega) (by omega) (by omega) (by omega)⟩
  · refine b_108 hb hb' (s60 ctp.1 (fun hc => ⟨by rw [tk_o (by omega)]; exact e12, ?_⟩) (fun n => no0 n))
    have wt : wTape T x1 := ⟨by omega, fun k a b => gw5 k a (by omega)⟩
    have ct : cTape (tk h x1) T x1 := ⟨tk_v.1, fun k a b => by rw [tk_o (by omega)]; exact ctp.2 k a (by omega)⟩
    have k := ok hc trivial
    refine s_109 wt hb' ct (by rw [tk_v.2.2.1]; omega) tk_v.2.2.2.1 (fun K PL e h' f' a4 a6 => ?_) (fun s' cn e h' f' a4 a6 q => ?_)
    · rw [tk_v.2.2.1] at e
      have kn := mBk_K 4 0 (fun _ => -1) 0 (by omega) (by omega) e
      refine b_77 ⟨fun _ => ⟨fun v => absurd rfl v, fun _ => ?_⟩, fun e4 => absurd e4 (by omega)⟩
      have kk := k h' ⟨fun o j w1 w2 w3 w4 => by rw [f' o j (by unfold cTs; omega) w2 w3, tk_o w1], by rw [f' _ _ (by unfold cTs; omega) (by omega) (by omega)]; exact tk_v.2.1, fun q eq => ?_, fun q eq => absurd (e.symm.trans eq) (by intro w; cases w)⟩
      · rw [e] at kk
        rw [a4]
        exact kk
      · have := Sum.inl.inj (e.symm.trans eq)
        subst this
        exact ⟨a6, by rw [f' _ _ (by unfold cTs; omega) (by omega) (by omega), tk_o (by omega)]; exact e11, by rw [f' _ _ (by unfold cTs; omega) (by omega) (by omega), tk_o (by omega)]; exact e12⟩
    · rw [tk_v.2.2.1] at e
      rw [tk_v.2.2.2.2] at a6
      refine b_77 ⟨fun n => absurd a4 n, fun _ => ⟨fun _ => ⟨by rw [f' _ _ (by unfold cTs; omega) (by omega) (by omega), tk_o (by omega)]; exact e11, by rw [f' _ _ (by unfold cTs; omega) (by omega) (by omega), tk_o (by omega)]; exact e12, ?_⟩, fun v => absurd v (by decide)⟩⟩
      have kk := k (hw (hw h' 1 11 b') 1 12 b) ⟨fun o j w1 w2 w3 w4 => by rw [hw_ne (by omega), hw_ne (by omega), f' o j (by unfold cTs; omega) w2 w3, tk_o w1], by rw [hw_ne (by omega), hw_ne (by omega), f' _ _ (by unfold cTs; omega) (by omega) (by omega)]; exact tk_v.2.1, fun q eq => absurd (e.symm.trans eq) (by intro w; cases w), fun q2 eq => ?_⟩
      · rw [e] at kk
        rw [hw_ne (by omega), hw_ne (by omega), q.1]
        exact kk
      · have := Sum.inr.inj (e.symm.trans eq)
        subst this
        exact ⟨by rw [hw_ne (by omega), hw_ne (by omega)]; exact a6, by rw [hw_ne (by omega), hw_eq ⟨rfl, rfl⟩], hw_eq ⟨rfl, rfl⟩, cBook_fr (fun o j a => by rw [hw_ne (by omega), hw_ne (by omega)]) q⟩
  · have gm' := gM_o fr gm
    obtain ⟨mr, ml, mp, mb, mlg, mim, mtp, mz, mcw⟩ := gm'.2
    have mm : H 113 2 = m := by
      have := mtp.1
      rw [hw_ne (by omega)] at this
      exact this
    refine b_252 ?_
    rw [mm]
    refine ⟨fun q => b_252_28 (b_252_29 (f222 (by decide) (by decide) h00 ⟨fun v => absurd rfl v, fun _ => no0 (by omega)⟩)), fun q => ⟨fun q2 => b_252_28 (b_252_29 (f222 (by decide) (by decide) h00 ⟨fun v => absurd rfl v, fun _ => no0 (by omega)⟩)), fun q2 => ⟨fun q3 => b_252_28 (b_252_29 (f222 (by decide) (by decide) h00 ⟨fun v => absurd rfl v, fun _ => no0 (by omega)⟩)), fun q3 => b_252_29 (t222 (by decide) (by decide) h00 ⟨fun _ => ?_, fun v => absurd v (by decide)⟩)⟩⟩⟩
    have hc : 0 ≤ x1 ∧ x1 ≤ m ∧ x1 ≤ 40 := by omega
    have wt : wTape T x1 := ⟨by omega, fun k a b => gw5 k a (by omega)⟩
    have k := ok hc trivial
    show zWp _ 252 46 _ [] (zTS c (mk6 (hw H 113 0 0) x1)) _
    refine b_252_46 ⟨fun q => absurd q (by decide), fun _ => ⟨by decide, ?_⟩⟩
    rw [w32_e (x := 0 + 1) (by decide) (by decide)]
    refine b_252_46 ⟨fun q => absurd q (by decide), fun _ => ⟨by decide, ?_⟩⟩
    rw [w32_e (x := 0 + 1 + 1) (by decide) (by decide)]
    refine b_252_46 ⟨fun q => absurd q (by decide), fun _ => ⟨by decide, ?_⟩⟩
    rw [w32_e (x := 0 + 1 + 1 + 1) (by decide) (by decide)]
    refine b_252_46 ⟨fun _ => ?_, fun q => absurd q (by decide)⟩
    obtain ⟨H3, hH3⟩ : ∃ H3, H3 = hw (hw (hw (mk6 (hw H 113 0 0) x1) 140 0 (-1)) 140 (0 + 1) (-1)) 140 (0 + 1 + 1) (-1) := ⟨_, rfl⟩
    rw [← hH3]
    have f3 : ∀ o j, o ≠ 140 → H3 o j = mk6 (hw H 113 0 0) x1 o j := fun o j w => by rw [hH3, hw_ne (by omega), hw_ne (by omega), hw_ne (by omega)]
    have v3 : ∀ k : Int, 0 ≤ k → k < 3 → H3 140 k = -1 := fun k a b => by
      rw [hH3]
      have : k = 0 ∨ k = 1 ∨ k = 2 := by omega
      rcases this with z | z | z <;> subst z
      · rw [hw_ne (by omega), hw_ne (by omega), hw_eq ⟨rfl, rfl⟩]
      · rw [hw_ne (by omega), hw_eq ⟨rfl, by decide⟩]
      · rw [hw_eq ⟨rfl, by decide⟩]
    have fH : ∀ o j, ¬ (o = 113 ∧ (j = 0 ∨ (2 ≤ j ∧ j ≤ 8))) → o ≠ 140 → H3 o j = H o j := fun o j w w2 => by rw [f3 o j w2, mk6_o (by omega), hw_ne (by omega)]
    have z3 : H3 113 0 = 0 := by rw [f3 _ _ (by omega), mk6_o (by omega), hw_eq ⟨rfl, rfl⟩]
    have mv := mk6_v (h := hw H 113 0 0) (x := x1)
    have mt : mTape H3 T x1 := ⟨by rw [f3 _ _ (by omega)]; exact mv.2.2.1, fun k a b => by rw [f3 _ _ (by omega), mk6_o (by omega)]; exact mtp.2 k a (by omega)⟩
    refine s_252_66 (a0 := 0) wt mt (fun K PL e hPL h' i2 f' a5 a6 => ?_) (fun s' cn e h' f' a5 a140 => ?_) 4 (fun _ => -1) 0 H3 (by decide) (by decide) v3 (fun _ _ _ _ => rfl) (by rw [f3 _ _ (by omega), mv.2.2.2.1]; omega) (by rw [f3 _ _ (by omega)]; exact mv.2.2.2.2.1) (by rw [f3 _ _ (by omega), mv.2.2.2.1])
    · refine b_252_156 (s240 (fun n => ⟨fun e5 => ?_, fun _ => ?_⟩) (fun e5 => absurd e5 (by omega)))
      · rw [hw_ne (by omega)] at e5
        exact absurd e5 n
      · have kk := k (hw h' 113 8 (h' 113 5)) ⟨fun o j w1 w2 w3 => by rw [hw_ne (by omega), f' o j (by unfold mTs; omega) w2, fH o j (by omega) w2], by rw [hw_ne (by omega), f' _ _ (by unfold mTs; omega) (by omega)]; exact z3, by rw [hw_ne (by omega), f' _ _ (by unfold mTs; omega) (by omega), f3 _ _ (by omega)]; exact mv.1, fun q eq => ?_, fun q eq => absurd (e.symm.trans eq) (by intro w; cases w)⟩
        · rw [e] at kk
          rw [a6]
          exact kk
        · have := Sum.inl.inj (e.symm.trans eq)
          subst this
          exact ⟨by rw [hw_eq ⟨rfl, rfl⟩]; exact a5, by rw [hw_ne (by omega), f' _ _ (by unfold mTs; omega) (by omega), fH _ _ (by omega) (by omega)], fun k => by rw [hw_ne (by omega), f' _ _ (by unfold mTs; omega) (by omega), fH _ _ (by omega) (by omega)]⟩
    · refine b_252_156 (s240 (fun n => absurd a5 n) (fun e5 => ⟨fun _ => ?_, fun n => ?_⟩))
      · refine s_218 (m := 3) zo_140 zo_141 (by decide) (by decide) (fun h4 f4 b1 b2 => ?_)
        have kk := k h4 ⟨fun o j w1 w2 w3 => by rw [f4 o j w3, hw_ne (by omega), hw_ne (by omega), f' o j (by unfold mTs; omega) w2, fH o j (by omega) w2], by rw [f4 _ _ (by omega), hw_ne (by omega), hw_ne (by omega), f' _ _ (by unfold mTs; omega) (by omega)]; exact z3, by rw [f4 _ _ (by omega), hw_ne (by omega), hw_ne (by omega), f' _ _ (by unfold mTs; omega) (by omega), f3 _ _ (by omega)]; exact mv.1, fun q eq => absurd (e.symm.trans eq) (by intro w; cases w), fun q eq => ?_⟩
        · rw [e] at kk
          exact kk
        · have := Sum.inr.inj (e.symm.trans eq)
          subst this
          exact ⟨by rw [f4 _ _ (by omega), hw_ne (by omega), hw_eq ⟨rfl, rfl⟩]; exact a5, by rw [f4 _ _ (by omega), hw_eq ⟨rfl, rfl⟩], fun k a b => by rw [b1 k a b, hw_ne (by omega), hw_ne (by omega)]; exact a140 k a b⟩
      · rw [hw_ne (by omega)] at n
        exact absurd a5 n
