/-! each call on both sides: what only asks, the second part -/
theorem gMl_frz {h h' : zH} {r : zH} {f : Int → Int} {N : Nat} {P : List (Int × Int)} {s : Int → Int} {n : Int} {L : gLg} {I : gIm} {T : Int → Int} {m : Int} (fr : ∀ o j, mCel o j → o ≠ 148 → ¬ (o = 113 ∧ j = 66) → h' o j = h o j) (z : ∀ i : Int, 0 ≤ i → i < 12 → h' 148 i = 0) (cw : mCW h') (w : gMl h r f N P s n L I T m) : gMl h' r f N P s n L I T m := by
  obtain ⟨w1, w2, w3, w4, w5, w6, w7, w8, w9⟩ := w
  unfold mCel at fr
  refine ⟨mRoad_fr (fun o j a => fr _ _ (by unfold mRo at a; omega) (by unfold mRo at a; omega) (by unfold mRo at a; omega)) w1, mLaw_fr (fun o j a => fr _ _ (by unfold mLo at a; omega) (by unfold mLo at a; omega) (by unfold mLo at a; omega)) w2, mPlan_fr (fun o j a => fr _ _ (by omega) (by omega) (by omega)) w3, mBook_fr (fun o j a => fr _ _ (by omega) (by omega) (by omega)) w4, ⟨?_, mLogR_f (fun j => fr _ _ (by omega) (by omega) (by omega)) w5.2⟩, ⟨?_, mImR_f (fun j => fr _ _ (by omega) (by omega) (by omega)) w6.2⟩, ⟨?_, fun k a c => ?_⟩, z, cw⟩
  · rw [fr _ _ (by omega) (by omega) (by omega)]; exact w5.1
  · rw [fr _ _ (by omega) (by omega) (by omega)]; exact w6.1
  · rw [fr _ _ (by omega) (by omega) (by omega)]; exact w7.1
  · rw [fr _ _ (by omega) (by omega) (by omega)]; exact w7.2 k a c
/-- the answer of both; the lateness asked for is put back, the crossing found is kept -/
theorem gP_okz {h h1 h2 : zH} {V : Int} (g : gI h) (f1 : ∀ o j, ¬ scC o j → h1 o j = h o j) (f2 : ∀ o j, ¬ scM o j → o ≠ 148 → ¬ (o = 113 ∧ j = 66) → h2 o j = (hw (hw h1 156 0 V) 113 0 0) o j) (z : ∀ i : Int, 0 ≤ i → i < 12 → h2 148 i = 0) (cw : mCW h2) : gP h 0 V h2 := by
  have x := gI_x g
  have e : ∀ o j, ¬ scC o j → ¬ scM o j → o ≠ 148 → ¬ (o = 156 ∧ j = 0) → ¬ (o = 113 ∧ (j = 0 ∨ j = 66)) → h2 o j = h o j := fun o j a b b' c d => by rw [f2 o j b b' (by omega), hw_ne (by omega), hw_ne (by omega), f1 o j a]
  obtain ⟨t, t', l, l', p, p', b, b', r, f, N, P, s, n, L, I, T, m, gw, gc, gm, gx⟩ := g
  refine ⟨⟨t, t', l, l', p, p', b, b', r, f, N, P, s, n, L, I, T, m, gw, gCl_fr gw.2.2.1 (fun o j a => e o j (by unfold cCel at a; unfold scC; omega) (by unfold cCel at a; unfold scM; omega) (by unfold cCel at a; omega) (by unfold cCel at a; omega) (by unfold cCel at a; omega)) gc, gMl_frz (fun o j a b c => e o j (by unfold mCel at a; unfold scC; omega) (by unfold mCel at a; unfold scM; omega) b (by unfold mCel at a; omega) (by unfold mCel at a; omega)) z cw gm, ?_⟩, ?_, fun _ => ?_, fun j => ?_⟩
  · unfold gX at x ⊢
    rw [e _ _ (by unfold scC; omega) (by unfold scM; omega) (by omega) (by omega) (by omega), e _ _ (by unfold scC; omega) (by unfold scM; omega) (by omega) (by omega) (by omega), e _ _ (by unfold scC; omega) (by unfold scM; omega) (by omega) (by omega) (by omega), e _ _ (by unfold scC; omega) (by unfold scM; omega) (by omega) (by omega) (by omega), e _ _ (by unfold scC; omega) (by unfold scM; omega) (by omega) (by omega) (by omega), e _ _ (by unfold scC; omega) (by unfold scM; omega) (by omega) (by omega) (by omega), e _ _ (by unfold scC; omega) (by unfold scM; omega) (by omega) (by omega) (by omega), e _ _ (by unfold scC; omega) (by unfold scM; omega) (by omega) (by omega) (by omega)]
    exact x
  · rw [f2 _ _ (by unfold scM; omega) (by omega) (by omega), hw_eq ⟨rfl, rfl⟩]
  · rw [f2 _ _ (by unfold scM; omega) (by omega) (by omega), hw_ne (by omega), hw_eq ⟨rfl, rfl⟩]
  · rw [e _ _ (by unfold scC; omega) (by unfold scM; omega) (by omega) (by omega) (by omega)]
theorem comb1z {h : zH} {c : Nat} {cond : Prop} {V : Int} (E0 : Nat) (Zc : gR → gXx → Prop) (Zm : Nat → zH → gR → Prop) (Zh : gR → Prop) (g : gI h) (hE : E0 = 0 ∨ E0 = 1)
    (B : ∀ R', Zc (fun y c h => R' 0 c (hw h 156 0 y)) (fun E c h => E = E0 ∧ R' 1 c h) → Zh R')
    (C : ∀ R' X', (cond → ∀ h', (∀ o j, ¬ scC o j → h' o j = h o j) → R' V c h') → (¬ cond → X' E0 (c + 1) (hw h 1 (15 + (E0 : Int)) (w32 (h 1 (15 + (E0 : Int)) + 1)))) → Zc R' X')
    (M : ∀ c H R', (∀ o j, 113 ≤ o → o ≠ 156 → H o j = h o j) → (cond → ∀ h', (∀ o j, ¬ scM o j → o ≠ 148 → ¬ (o = 113 ∧ j = 66) → h' o j = (hw H 113 0 0) o j) → (∀ i : Int, 0 ≤ i → i < 12 → h' 148 i = 0) → mCW h' → R' V c h') → (¬ cond → R' 0 c (hw (hw (hw H 113 0 0) 113 0 1) 114 (E0 : Int) (w32 (H 114 (E0 : Int) + 1)))) → Zm c H R') :
    Zh (fun k c h1 => (∀ j, h1 0 j = h 0 j) ∧ Zm c h1 (fun b _ h2 => gP h k b h2)) := by
  refine B _ (C _ _ (fun hc h1 f1 => ⟨fun j => by rw [hw_ne (by omega), f1 0 j (by unfold scC; omega)], M _ _ _ (fun o j a b => by rw [hw_ne (by omega), f1 o j (by unfold scC; omega)]) (fun _ h2 f2 z cw => gP_okz g f1 f2 z cw) (fun n => absurd hc n)⟩) (fun nc => ⟨rfl, fun j => by rw [hw_ne (by omega)], M _ _ _ (fun o j a b => by rw [hw_ne (by omega)]) (fun y => absurd y nc) (fun _ => ?_)⟩))
  have := gP_no (b := 0) g (i := (E0 : Int)) (k := 1) (by omega) (by decide)
  rw [hw_ne (o := 1) (by omega)]
  exact this
section
variable {d c : Nat} {R : Int → Nat → zH → Prop} {X : Nat → Nat → zH → Prop} {H : zH}
theorem f222 {co ki : Int} (hk : 0 ≤ ki ∧ ki < 3) (hc : co ≠ 0) (h0 : H 113 0 = 0) (k : R 0 c (hw (hw H 113 0 co) 114 ki (w32 (H 114 ki + 1)))) : zCl d 222 [(2, 113), (0, 0), (0, co), (0, ki)] c H R X := s_222 h0 hk hc (fun e => absurd rfl e) (fun _ => k)
theorem t222 {co ki : Int} (hk : 0 ≤ ki ∧ ki < 3) (hc : co ≠ 0) (h0 : H 113 0 = 0) (k : R 1 c H) : zCl d 222 [(2, 113), (0, 1), (0, co), (0, ki)] c H R X := s_222 h0 hk hc (fun _ => k) (fun e => absurd e (by decide))
theorem s290 {x : Int} (k1 : 0 ≤ x ∧ x ≤ 59 → R 1 c H) (k0 : ¬ (0 ≤ x ∧ x ≤ 59) → R 0 c H) : zCl d 290 [(0, x)] c H R X := b_290 ⟨fun _ => k0 (by omega), fun _ => ⟨fun _ => k0 (by omega), fun _ => k1 (by omega)⟩⟩
theorem s291 {x : Int} (k1 : 0 ≤ x ∧ x ≤ 240 → R 1 c H) (k0 : ¬ (0 ≤ x ∧ x ≤ 240) → R 0 c H) : zCl d 291 [(0, x)] c H R X := b_291 ⟨fun _ => k0 (by omega), fun _ => ⟨fun _ => k0 (by omega), fun _ => k1 (by omega)⟩⟩
end
def wF (a b c d e g : Int) : Int → Int := fun j => if j = 0 then a else if j = 1 then b else if j = 2 then c else if j = 3 then d else if j = 4 then e else g
def w6 (H : zH) (a b c d e g : Int) : zH := hw (hw (hw (hw (hw (hw H 137 0 a) 137 1 b) 137 2 c) 137 3 d) 137 4 e) 137 5 g
theorem w6_o {H : zH} {a b c d e g o j : Int} (q : o ≠ 137) : w6 H a b c d e g o j = H o j := by
  unfold w6
  rw [hw_ne (by omega), hw_ne (by omega), hw_ne (by omega), hw_ne (by omega), hw_ne (by omega), hw_ne (by omega)]
theorem w6_j {H : zH} {a b c d e g : Int} (j : Int) (h0 : 0 ≤ j) (h1 : j < 6) : w6 H a b c d e g 137 j = wF a b c d e g j := by
  unfold w6 wF
  have : j = 0 ∨ j = 1 ∨ j = 2 ∨ j = 3 ∨ j = 4 ∨ j = 5 := by omega
  rcases this with q | q | q | q | q | q <;> subst q
  · rw [hw_ne (by omega), hw_ne (by omega), hw_ne (by omega), hw_ne (by omega), hw_ne (by omega), hw_eq ⟨rfl, rfl⟩, if_pos rfl]
  · rw [hw_ne (by omega), hw_ne (by omega), hw_ne (by omega), hw_ne (by omega), hw_eq ⟨rfl, rfl⟩, if_neg (by decide), if_pos rfl]
  · rw [hw_ne (by omega), hw_ne (by omega), hw_ne (by omega), hw_eq ⟨rfl, rfl⟩, if_neg (by decide), if_neg (by decide), if_pos rfl]
  · rw [hw_ne (by omega), hw_ne (by omega), hw_eq ⟨rfl, rfl⟩, if_neg (by decide), if_neg (by decide), if_neg (by decide), if_pos rfl]
  · rw [hw_ne (by omega), hw_eq ⟨rfl, rfl⟩, if_neg (by decide), if_neg (by decide), if_neg (by decide), if_neg (by decide), if_pos rfl]
  · rw [hw_eq ⟨rfl, rfl⟩, if_neg (by decide), if_neg (by decide), if_neg (by decide), if_neg (by decide), if_neg (by decide)]
theorem o_32 {d c : Nat} {X : Nat → Nat → zH → Prop} {h : zH} {a : Int} (g : gI h) : zCl (d + 59) 182 [(2, 1), (0, a), (2, 156)] c h (fun k c h1 => (∀ j, h1 0 j = h 0 j) ∧ zCl (d + 59) 310 [(2, 113), (0, a)] c h1 (fun b _ h2 => gP h k b h2) X) X := by
  obtain ⟨t, t', l, l', p, p', b, b', r, f, N, P, s, n, L, I, T, m, gw, gc, gm, gx⟩ := id g
  obtain ⟨⟨wr, wl, wpl⟩, gw2, gw3, gw4, gw5⟩ := gw
  obtain ⟨rf, cr, cl, cp, cb, clg, cim, ctp, czr, cca⟩ := gc
  obtain ⟨⟨e5, e6, e7, e8, e9, e10, e11, e12⟩, rt, rl, rp, rb⟩ := rf
  have ht : zIsR t := by unfold zIsR; omega
  have hl : zIsL l := by unfold zIsL; omega
  have hp : zIsP p := by unfold zIsP; omega
  have hb : zIsB b := by unfold zIsB; omega
  have wd := wr_d wr
  have wq := wr_p wr
  have wn := wr_n wr
  have wb := wr_b wr
  have wc := wr_c wr
  clear rt rl rp rb
  refine comb1 (c := c) (cond := mCv a) (V := mCs (nD a) a (nD a)) 1 (fun R X => zCl (d + 58) 183 [(2, 1), (0, a)] c h R X) (fun c H R => zCl (d + 59) 310 [(2, 113), (0, a)] c H R X) (fun R => zCl (d + 59) 182 [(2, 1), (0, a), (2, 156)] c h R X) g (by decide) (fun R' z => b_182 z) (fun R' X' ok no => ?_) (fun c H R' fr ok no => ?_)
  · refine b_183 (s_184 (fun y => ⟨fun e => ?_, fun ne => b_62 ⟨fun _ => ok y h (fun _ _ _ => rfl), fun e => absurd e (by decide)⟩⟩) (fun n => ⟨fun _ => b_62 ⟨fun e => absurd rfl e, fun _ => no n⟩, fun v => absurd rfl v⟩))
    have q1 := nD_r a
    have q2 := mCs_r (n := (nD a : Int)) (row := a) (by omega) (nD a)
    omega
  · have gm' := gM_o fr gm
    exact s_310 (fun y => ok y _ (fun _ _ _ => rfl)) (fun n => no n)
theorem o_10 {d c : Nat} {X : Nat → Nat → zH → Prop} {h : zH} {a : Int} (g : gI h) : zCl (d + 59) 122 [(2, 1), (0, a), (2, 156)] c h (fun k c h1 => (∀ j, h1 0 j = h 0 j) ∧ zCl (d + 59) 260 [(2, 113), (0, a)] c h1 (fun b _ h2 => (b = 0 ∨ b = 1) ∧ gP h k b h2) X) X := by
  obtain ⟨t, t', l, l', p, p', b, b', r, f, N, P, s, n, L, I, T, m, gw, gc, gm, gx⟩ := id g
  obtain ⟨⟨wr, wl, wpl⟩, gw2, gw3, gw4, gw5⟩ := gw
  obtain ⟨rf, cr, cl, cp, cb, clg, cim, ctp, czr, cca⟩ := gc
  obtain ⟨⟨e5, e6, e7, e8, e9, e10, e11, e12⟩, rt, rl, rp, rb⟩ := rf
  have ht : zIsR t := by unfold zIsR; omega
  have hl : zIsL l := by unfold zIsL; omega
  have hp : zIsP p := by unfold zIsP; omega
  have hb : zIsB b := by unfold zIsB; omega
  have wd := wr_d wr
  have wq := wr_p wr
  have wn := wr_n wr
  have wb := wr_b wr
  have wc := wr_c wr
  clear rt rl rp rb
  refine comb1 (c := c) (cond := 0 ≤ a ∧ a ≤ 240) (V := r 14 a) 1 (fun R X => zCl (d + 58) 123 [(2, 1), (0, a)] c h (fun y c h' => (y = 0 → R 0 c h') ∧ (y ≠ 0 → R 1 c h')) X) (fun c H R => zCl (d + 59) 260 [(2, 113), (0, a)] c H (fun b c h2 => (b = 0 ∨ b = 1) ∧ R b c h2) X) (fun R => zCl (d + 59) 122 [(2, 1), (0, a), (2, 156)] c h R X) g (by decide) (fun R' z => b_122 z) (fun R' X' ok no => ?_) (fun c H R' fr ok no => ?_)
  · refine b_123 ht (s_61 (fun lo hi => ⟨e5, ?_⟩) (fun n => no n))
    have q := mRn1 (r := r) lo
    rw [if_pos (by omega)] at q
    have k := ok ⟨lo, hi⟩ h (fun _ _ _ => rfl)
    have q2 := wr_rain wr a lo (by omega)
    rw [w32_e (by omega) (by omega)]
    refine s_30 ht cr wr ?_
    rw [q]
    by_cases e : r 14 a = 0
    · rw [e] at k ⊢
      exact ⟨fun _ => ⟨fun _ => k, fun v => absurd rfl v⟩, fun v => absurd v (by decide)⟩
    · rw [show r 14 a = 1 by omega] at k ⊢
      exact ⟨fun v => absurd v (by decide), fun _ => ⟨fun v => absurd v (by decide), fun _ => k⟩⟩
  · have gm' := gM_o fr gm
    obtain ⟨mr, ml, mp, mb, mlg, mim, mtp, mz, mcw⟩ := gm'.2
    refine b_260 (may1 (by decide) (by decide) h00 (fun hc => ⟨fun _ => ⟨by omega, ?_, ?_⟩, fun v => absurd v (by decide)⟩) (fun n => ⟨fun v => absurd rfl v, fun _ => ⟨Or.inl rfl, no n⟩⟩))
    · rw [mr_rain mr a hc.1 (by omega)]
      have := wr_rain wr a hc.1 (by omega)
      omega
    · rw [mr_rain mr a hc.1 (by omega)]
      have := wr_rain wr a hc.1 (by omega)
      exact ⟨by omega, ok hc _ (fun _ _ _ => rfl)⟩
theorem o_11 {d c : Nat} {X : Nat → Nat → zH → Prop} {h : zH} {x1 x2 x3 x4 x5 x6 : Int} (g : gI h) : zCl (d + 59) 124 [(2, 1), (0, x1), (0, x2), (0, x3), (0, x4), (0, x5), (0, x6), (2, 156)] c h (fun k c h1 => (∀ j, h1 0 j = h 0 j) ∧ zCl (d + 59) 261 [(2, 113), (0, x1), (0, x2), (0, x3), (0, x4), (0, x5), (0, x6)] c h1 (fun b _ h2 => gP h k b h2) X) X := by
  obtain ⟨t, t', l, l', p, p', b, b', r, f, N, P, s, n, L, I, T, m, gw, gc, gm, gx⟩ := id g
  obtain ⟨⟨wr, wl, wpl⟩, gw2, gw3, gw4, gw5⟩ := gw
  obtain ⟨rf, cr, cl, cp, cb, clg, cim, ctp, czr, cca⟩ := gc
  obtain ⟨⟨e5, e6, e7, e8, e9, e10, e11, e12⟩, rt, rl, rp, rb⟩ := rf
  have ht : zIsR t := by unfold zIsR; omega
  have hl : zIsL l := by unfold zIsL; omega
  have hp : zIsP p := by unfold zIsP; omega
  have hb : zIsB b := by unfold zIsB; omega
  have wd := wr_d wr
  have wq := wr_p wr
  have wn := wr_n wr
  have wb := wr_b wr
  have wc := wr_c wr
  clear rt rl rp rb
  refine comb1 (c := c) (cond := (1 ≤ x1 ∧ x1 ≤ 30) ∧ (1 ≤ x2 ∧ x2 ≤ 2) ∧ (0 ≤ x3 ∧ x3 ≤ 18) ∧ (0 ≤ x4 ∧ x4 ≤ 1) ∧ (0 ≤ x5 ∧ x5 ≤ 240) ∧ (0 ≤ x6 ∧ x6 ≤ 1)) (V := zCla (mStk f (wF x1 x2 x3 x4 x5 x6) N 0)) 1 (fun R X => zCl (d + 58) 125 [(2, 1), (0, x1), (0, x2), (0, x3), (0, x4), (0, x5), (0, x6)] c h R X) (fun c H R => zCl (d + 59) 261 [(2, 113), (0, x1), (0, x2), (0, x3), (0, x4), (0, x5), (0, x6)] c H R X) (fun R => zCl (d + 59) 124 [(2, 1), (0, x1), (0, x2), (0, x3), (0, x4), (0, x5), (0, x6), (2, 156)] c h R X) g (by decide) (fun R' z => b_124 z) (fun R' X' ok no => ?_) (fun c H R' fr ok no => ?_)
  · exact b_125 hl (s_61 (fun lo0 hi0 => (s_61 (fun lo1 hi1 => (s_61 (fun lo2 hi2 => (s_61 (fun lo3 hi3 => (s_61 (fun lo4 hi4 => (s_61 (fun lo5 hi5 => ⟨e7, s_31 (F := wF x1 x2 x3 x4 x5 x6) hl cl wl rfl rfl rfl rfl rfl rfl (fun h' f' => ok ⟨⟨lo0, hi0⟩, ⟨lo1, hi1⟩, ⟨lo2, hi2⟩, ⟨lo3, hi3⟩, ⟨lo4, hi4⟩, ⟨lo5, hi5⟩⟩ h' (fun o j w => f' o j (fun y => w (by unfold zIsL at hl; unfold scC; omega)) (fun y => w (by unfold zIsL at hl; unfold scC; omega))))⟩) (fun n => no (by omega)))) (fun n => no (by omega)))) (fun n => no (by omega)))) (fun n => no (by omega)))) (fun n => no (by omega)))) (fun n => no (by omega)))
  · have gm' := gM_o fr gm
    obtain ⟨mr, ml, mp, mb, mlg, mim, mtp, mz, mcw⟩ := gm'.2
    have ml2 : mLaw (w6 (hw H 113 0 0) x1 x2 x3 x4 x5 x6) f N := mLaw_fr (fun o j a => w6_o (by unfold mLo at a; omega)) ml
    exact b_261 (s_254 (fun c0 => ⟨fun v => absurd v (by decide), fun _ => (s_254 (fun c1 => ⟨fun v => absurd v (by decide), fun _ => (s_254 (fun c2 => ⟨fun v => absurd v (by decide), fun _ => (s_254 (fun c3 => ⟨fun v => absurd v (by decide), fun _ => (s_254 (fun c4 => ⟨fun v => absurd v (by decide), fun _ => (s_254 (fun c5 => ⟨fun v => absurd v (by decide), fun _ => b_261_72 (t222 (by decide) (by decide) h00 ⟨fun _ => s_262 (f := f) (F := wF x1 x2 x3 x4 x5 x6) ml2 wl (fun j a b => w6_j j a b) (fun h' f' => ok ⟨c0, c1, c2, c3, c4, c5⟩ h' (fun o j w => by rw [f' o j (fun y => w (by unfold scM; omega))]; exact w6_o (fun y => w (by unfold scM; omega)))), fun v => absurd v (by decide)⟩)⟩) (fun n => ⟨fun _ => b_261_71 (b_261_72 (f222 (by decide) (by decide) h00 ⟨fun v => absurd rfl v, fun _ => no (by omega)⟩)), fun v => absurd rfl v⟩))⟩) (fun n => ⟨fun _ => b_261_71 (b_261_72 (f222 (by decide) (by decide) h00 ⟨fun v => absurd rfl v, fun _ => no (by omega)⟩)), fun v => absurd rfl v⟩))⟩) (fun n => ⟨fun _ => b_261_71 (b_261_72 (f222 (by decide) (by decide) h00 ⟨fun v => absurd rfl v, fun _ => no (by omega)⟩)), fun v => absurd rfl v⟩))⟩) (fun n => ⟨fun _ => b_261_71 (b_261_72 (f222 (by decide) (by decide) h00 ⟨fun v => absurd rfl v, fun _ => no (by omega)⟩)), fun v => absurd rfl v⟩))⟩) (fun n => ⟨fun _ => b_261_71 (b_261_72 (f222 (by decide) (by decide) h00 ⟨fun v => absurd rfl v, fun _ => no (by omega)⟩)), fun v => absurd rfl v⟩))⟩) (fun n => ⟨fun _ => b_261_71 (b_261_72 (f222 (by decide) (by decide) h00 ⟨fun v => absurd rfl v, fun _ => no (by omega)⟩)), fun v => absurd rfl v⟩))
def vLine (P : List (Int × Int)) (G : zH) (a w : Int) : Int := if w = 0 then pD P a else if w = 1 then pB P a else if w = 2 then (if G 3 a = -1 then 1 else 0) else if w = 3 then G 3 a else G 4 a
theorem o_12 {d c : Nat} {X : Nat → Nat → zH → Prop} {h : zH} {a w : Int} (g : gI h) : zCl (d + 59) 126 [(2, 1), (0, a), (0, w), (2, 156)] c h (fun k c h1 => (∀ j, h1 0 j = h 0 j) ∧ zCl (d + 59) 265 [(2, 113), (0, a), (0, w)] c h1 (fun b _ h2 => gP h k b h2) X) X := by
  obtain ⟨t, t', l, l', p, p', b, b', r, f, N, P, s, n, L, I, T, m, gw, gc, gm, gx⟩ := id g
  obtain ⟨⟨wr, wl, wpl⟩, gw2, gw3, gw4, gw5⟩ := gw
  obtain ⟨rf, cr, cl, cp, cb, clg, cim, ctp, czr, cca⟩ := gc
  obtain ⟨⟨e5, e6, e7, e8, e9, e10, e11, e12⟩, rt, rl, rp, rb⟩ := rf
  have ht : zIsR t := by unfold zIsR; omega
  have hl : zIsL l := by unfold zIsL; omega
  have hp : zIsP p := by unfold zIsP; omega
  have hb : zIsB b := by unfold zIsB; omega
  have wd := wr_d wr
  have wq := wr_p wr
  have wn := wr_n wr
  have wb := wr_b wr
  have wc := wr_c wr
  clear rt rl rp rb
  have wdd : wD r f N P := ⟨wr, wl, wpl⟩
  refine comb2 (c := c) (c0 := 0 ≤ a ∧ a < (P.length : Int)) (c1 := 0 ≤ w ∧ w ≤ 4) (V := vLine P (mG0 r f N P (-1) 0) a w) 0 1 (fun R X => zCl (d + 58) 127 [(2, 1), (0, a), (0, w)] c h R X) (fun c H R => zCl (d + 59) 265 [(2, 113), (0, a), (0, w)] c H R X) (fun R => zCl (d + 59) 126 [(2, 1), (0, a), (0, w), (2, 156)] c h R X) g (by decide) (fun R' z => b_126 z) (fun R' X' ok no0 no1 => ?_) (fun c H R' fr ok no0 no1 => ?_)
  · have cd : cD t l p h r f N P := ⟨⟨e5, e7, e9⟩, ⟨ht, hl, hp⟩, cr, cl, cp⟩
    refine b_127 hp ⟨e9, ?_⟩
    rw [cp.1]
    refine s_117 (fun lo hi => s_61 (fun lo2 hi2 => s_19 cd wdd (fun h' f' g' => ?_)) (fun n => no1 ⟨lo, hi⟩ n)) (fun n => no0 n)
    have k := ok ⟨lo, hi⟩ ⟨lo2, hi2⟩ h' (fun o j w => f' o j (fun y => w (by unfold cSc at y; unfold scC; omega)))
    have len := wpl.1
    unfold vLine at k
    have q9 : h' 1 9 = p := by rw [f' _ _ (by unfold cSc; omega), e9]
    have q4 : h' (p + 4) a = pD P a := by rw [f' _ _ (by unfold zIsP at hp; unfold cSc; omega)]; exact (cp.2 a lo hi).1
    have q5 : h' (p + 5) a = pB P a := by rw [f' _ _ (by unfold zIsP at hp; unfold cSc; omega)]; exact (cp.2 a lo hi).2
    have q6 := g'.2.2.2 a lo hi
    refine ⟨fun e => ⟨q9, by omega, ?_⟩, fun n0 => ⟨fun e => ⟨q9, by omega, ?_⟩, fun n1 => ⟨fun e => ⟨by omega, fun n => ?_, fun e => ?_⟩, fun n2 => ⟨fun e => ⟨by omega, ?_⟩, fun n3 => ⟨by omega, ?_⟩⟩⟩⟩⟩
    · rw [if_pos e] at k; rw [q4]; exact k
    · rw [if_neg n0, if_pos e] at k; rw [q5]; exact k
    · rw [if_neg n0, if_neg n1, if_pos e, if_neg (by rw [← q6.1]; exact n)] at k; exact k
    · rename_i e2; rw [if_neg n0, if_neg n1, if_pos e2, if_pos (by rw [← q6.1]; exact e)] at k; exact k
    · rw [if_neg n0, if_neg n1, if_neg n2, if_pos e] at k; rw [q6.1]; exact k
    · rw [if_neg n0, if_neg n1, if_neg n2, if_neg n3] at k; rw [q6.2]; exact k
  · have gm' := gM_o fr gm
    obtain ⟨mr, ml, mp, mb, mlg, mim, mtp, mz, mcw⟩ := gm'.2
    have md : mD (hw H 113 0 0) r f N P := ⟨mr, ml, mp⟩
    have len := wpl.1
    have eD := mp.1
    refine b_265 (s_266 h00 (by decide) (by omega) (fun lo hi => ⟨fun v => absurd v (by decide), fun _ => may1 (by decide) (by decide) h00 (fun hc => ⟨fun _ => ?_, fun v => absurd v (by decide)⟩) (fun n => ⟨fun v => absurd rfl v, fun _ => no1 (by omega) n⟩)⟩) (fun n => ⟨fun _ => no0 (by rw [← eD]; exact n), fun v => absurd rfl v⟩))
    rw [eD] at hi
    have k := ok ⟨lo, hi⟩ hc
    unfold vLine at k
    refine ⟨fun g2 => s_267d (xl := -1) (xb := 0) md wdd (by decide) (fun i a2 b2 => by have := wpl.2.1 i a2 b2; rw [mz _ (by omega) (by omega)]; split <;> rfl) (fun h' f' g' => ?_), fun l2 => ?_⟩
    · have kk := k h' (fun o j w => f' o j (fun y => w (by unfold mSc at y; unfold scM; omega)))
      have q6 := g'.2.2.2 a lo hi
      refine ⟨fun n2 => ⟨fun n3 => ⟨by omega, ?_⟩, fun e => ⟨by omega, ?_⟩⟩, fun e2 => ⟨by omega, fun n => ?_, fun e => ?_⟩⟩
      · rw [if_neg (by omega), if_neg (by omega), if_neg n2, if_neg n3] at kk; rw [q6.2]; exact kk
      · rw [if_neg (by omega), if_neg (by omega), if_neg n2, if_pos e] at kk; rw [q6.1]; exact kk
      · rw [if_neg (by omega), if_neg (by omega), if_pos e2, if_neg (by rw [← q6.1]; exact n)] at kk; exact kk
      · rw [if_neg (by omega), if_neg (by omega), if_pos e2, if_pos (by rw [← q6.1]; exact e)] at kk; exact kk
    · have kk := k _ (fun _ _ _ => rfl)
      rw [w32_e (x := 2 * a) (by omega) (by omega), w32_e (x := 2 * a + w) (by omega) (by omega)]
      refine ⟨by omega, ?_⟩
      by_cases e : w = 0
      · rw [if_pos e] at kk
        rw [e, Int.add_zero, (mp.2 a lo hi).1]; exact kk
      · rw [if_neg e, if_pos (by omega)] at kk
        rw [show w = 1 by omega, (mp.2 a lo hi).2]; exact kk
theorem o_14 {d c : Nat} {X : Nat → Nat → zH → Prop} {h : zH} {a : Int} (g : gI h) : zCl (d + 59) 128 [(2, 1), (0, a), (2, 156)] c h (fun k c h1 => (∀ j, h1 0 j = h 0 j) ∧ zCl (d + 59) 277 [(2, 113), (0, a)] c h1 (fun b _ h2 => gP h k b h2) X) X := by
  obtain ⟨t, t', l, l', p, p', b, b', r, f, N, P, s, n, L, I, T, m, gw, gc, gm, gx⟩ := id g
  obtain ⟨⟨wr, wl, wpl⟩, gw2, gw3, gw4, gw5⟩ := gw
  obtain ⟨rf, cr, cl, cp, cb, clg, cim, ctp, czr, cca⟩ := gc
  obtain ⟨⟨e5, e6, e7, e8, e9, e10, e11, e12⟩, rt, rl, rp, rb⟩ := rf
  have ht : zIsR t := by unfold zIsR; omega
  have hl : zIsL l := by unfold zIsL; omega
  have hp : zIsP p := by unfold zIsP; omega
  have hb : zIsB b := by unfold zIsB; omega
  have wd := wr_d wr
  have wq := wr_p wr
  have wn := wr_n wr
  have wb := wr_b wr
  have wc := wr_c wr
  clear rt rl rp rb
  have wdd : wD r f N P := ⟨wr, wl, wpl⟩
  refine comb1 (c := c) (cond := 0 ≤ a ∧ a < r 0 0) (V := mG0 r f N P (-1) 0 6 a) 0 (fun R X => zCl (d + 58) 129 [(2, 1), (0, a)] c h R X) (fun c H R => zCl (d + 59) 277 [(2, 113), (0, a)] c H R X) (fun R => zCl (d + 59) 128 [(2, 1), (0, a), (2, 156)] c h R X) g (by decide) (fun R' z => b_128 z) (fun R' X' ok no => ?_) (fun c H R' fr ok no => ?_)
  · have cd : cD t l p h r f N P := ⟨⟨e5, e7, e9⟩, ⟨ht, hl, hp⟩, cr, cl, cp⟩
    refine b_129 ht ⟨e5, ?_⟩
    rw [cr_p cr]
    refine s_117 (fun lo hi => s_19 cd wdd (fun h' f' g' => ⟨by omega, ?_⟩)) (fun n => no n)
    rw [(g'.2.2.1 a lo (by omega)).1]
    exact ok ⟨lo, hi⟩ h' (fun o j w => f' o j (fun y => w (by unfold cSc at y; unfold scC; omega)))
  · have gm' := gM_o fr gm
    obtain ⟨mr, ml, mp, mb, mlg, mim, mtp, mz, mcw⟩ := gm'.2
    have md : mD (hw H 113 0 0) r f N P := ⟨mr, ml, mp⟩
    have eD := mr_p mr
    refine b_277 (s_258 h00 (by decide) (by omega) (fun lo hi => ⟨fun _ => s_267d (xl := -1) (xb := 0) md wdd (by decide) (fun i a2 b2 => by have := wpl.2.1 i a2 b2; rw [mz _ (by omega) (by omega)]; split <;> rfl) (fun h' f' g' => ⟨by omega, ?_⟩), fun v => absurd v (by decide)⟩) (fun n => ⟨fun v => absurd rfl v, fun _ => no (by rw [← eD]; exact n)⟩))
    rw [(g'.2.2.1 a lo (by omega)).1]
    exact ok (by omega) h' (fun o j w => f' o j (fun y => w (by unfold mSc at y; unfold scM; omega)))
theorem o_15 {d c : Nat} {X : Nat → Nat → zH → Prop} {h : zH} {a : Int} (g : gI h) : zCl (d + 59) 130 [(2, 1), (0, a), (2, 156)] c h (fun k c h1 => (∀ j, h1 0 j = h 0 j) ∧ zCl (d + 59) 278 [(2, 113), (0, a)] c h1 (fun b _ h2 => gP h k b h2) X) X := by
  obtain ⟨t, t', l, l', p, p', b, b', r, f, N, P, s, n, L, I, T, m, gw, gc, gm, gx⟩ := id g
  obtain ⟨⟨wr, wl, wpl⟩, gw2, gw3, gw4, gw5⟩ := gw
  obtain ⟨rf, cr, cl, cp, cb, clg, cim, ctp, czr, cca⟩ := gc
  obtain ⟨⟨e5, e6, e7, e8, e9, e10, e11, e12⟩, rt, rl, rp, rb⟩ := rf
  have ht : zIsR t := by unfold zIsR; omega
  have hl : zIsL l := by unfold zIsL; omega
  have hp : zIsP p := by unfold zIsP; omega
  have hb : zIsB b := by unfold zIsB; omega
  have wd := wr_d wr
  have wq := wr_p wr
  have wn := wr_n wr
  have wb := wr_b wr
  have wc := wr_c wr
  clear rt rl rp rb
  have wdd : wD r f N P := ⟨wr, wl, wpl⟩
  refine comb1 (c := c) (cond := 0 ≤ a ∧ a < r 0 0) (V := w32 (mG0 r f N P (-1) 0 0 0 - mG0 r f N P (-1) 0 5 a)) 0 (fun R X => zCl (d + 58) 131 [(2, 1), (0, a)] c h R X) (fun c H R => zCl (d + 59) 278 [(2, 113), (0, a)] c H R X) (fun R => zCl (d + 59) 130 [(2, 1), (0, a), (2, 156)] c h R X) g (by decide) (fun R' z => b_130 z) (fun R' X' ok no => ?_) (fun c H R' fr ok no => ?_)
  · have cd : cD t l p h r f N P := ⟨⟨e5, e7, e9⟩, ⟨ht, hl, hp⟩, cr, cl, cp⟩
    refine b_131 ht ⟨e5, ?_⟩
    rw [cr_p cr]
    refine s_117 (fun lo hi => s_19 cd wdd (fun h' f' g' => ⟨by omega, ?_⟩)) (fun n => no n)
    rw [g'.1, (g'.2.2.1 a lo (by omega)).2]
    exact ok ⟨lo, hi⟩ h' (fun o j w => f' o j (fun y => w (by unfold cSc at y; unfold scC; omega)))
  · have gm' := gM_o fr gm
    obtain ⟨mr, ml, mp, mb, mlg, mim, mtp, mz, mcw⟩ := gm'.2
    have md : mD (hw H 113 0 0) r f N P := ⟨mr, ml, mp⟩
    have eD := mr_p mr
    refine b_278 (s_258 h00 (by decide) (by omega) (fun lo hi => ⟨fun _ => s_267d (xl := -1) (xb := 0) md wdd (by decide) (fun i a2 b2 => by have := wpl.2.1 i a2 b2; rw [mz _ (by omega) (by omega)]; split <;> rfl) (fun h' f' g' => ⟨by omega, ?_⟩), fun v => absurd v (by decide)⟩) (fun n => ⟨fun v => absurd rfl v, fun _ => no (by rw [← eD]; exact n)⟩))
    rw [(g'.2.2.1 a lo (by omega)).2]
    exact ok (by omega) h' (fun o j w => f' o j (fun y => w (by unfold mSc at y; unfold scM; omega)))
theorem o_17 {d c : Nat} {X : Nat → Nat → zH → Prop} {h : zH} {a : Int} (g : gI h) : zCl (d + 59) 132 [(2, 1), (0, a), (2, 156)] c h (fun k c h1 => (∀ j, h1 0 j = h 0 j) ∧ zCl (d + 59) 280 [(2, 113), (0, a)] c h1 (fun b _ h2 => gP h k b h2) X) X := by
  obtain ⟨t, t', l, l', p, p', b, b', r, f, N, P, s, n, L, I, T, m, gw, gc, gm, gx⟩ := id g
  obtain ⟨⟨wr, wl, wpl⟩, gw2, gw3, gw4, gw5⟩ := gw
  obtain ⟨rf, cr, cl, cp, cb, clg, cim, ctp, czr, cca⟩ := gc
  obtain ⟨⟨e5, e6, e7, e8, e9, e10, e11, e12⟩, rt, rl, rp, rb⟩ := rf
  have ht : zIsR t := by unfold zIsR; omega
  have hl : zIsL l := by unfold zIsL; omega
  have hp : zIsP p := by unfold zIsP; omega
  have hb : zIsB b := by unfold zIsB; omega
  have wd := wr_d wr
  have wq := wr_p wr
  have wn := wr_n wr
  have wb := wr_b wr
  have wc := wr_c wr
  clear rt rl rp rb
  have wdd : wD r f N P := ⟨wr, wl, wpl⟩
  refine comb1z (c := c) (cond := 0 ≤ a ∧ a < r 0 1) (V := mSl r f N P a 99) 0 (fun R X => zCl (d + 58) 133 [(2, 1), (0, a)] c h R X) (fun c H R => zCl (d + 59) 280 [(2, 113), (0, a)] c H R X) (fun R => zCl (d + 59) 132 [(2, 1), (0, a), (2, 156)] c h R X) g (by decide) (fun R' z => b_132 z) (fun R' X' ok no => ?_) (fun c H R' fr ok no => ?_)
  · have cd : cD t l p h r f N P := ⟨⟨e5, e7, e9⟩, ⟨ht, hl, hp⟩, cr, cl, cp⟩
    refine b_133 ht ⟨e5, ?_⟩
    rw [cr_d cr]
    exact s_117 (fun lo hi => s_39 (n := 99) (by decide) cd wdd (fun h' f' => ok ⟨lo, hi⟩ h' (fun o j w => f' o j (fun y => w (by unfold cSc at y; unfold scC; omega))))) (fun n => no n)
  · have gm' := gM_o fr gm
    obtain ⟨mr, ml, mp, mb, mlg, mim, mtp, mz, mcw⟩ := gm'.2
    have md : mD (hw H 113 0 0) r f N P := ⟨mr, ml, mp⟩
    have eD := mr_d mr
    exact b_280 (s_256 h00 (by decide) (by omega) (fun lo hi => ⟨fun _ => s_281 md wdd (by omega) mz (fun h' f' z => ok (by omega) h' (fun o j w w2 w3 => f' o j (fun y => w (by unfold mSc at y; unfold scM; omega)) w2) z (by unfold mCW at mcw ⊢; rw [f' _ _ (by unfold mSc; omega) (by omega)]; exact mcw)), fun v => absurd v (by decide)⟩) (fun n => ⟨fun v => absurd rfl v, fun _ => no (by rw [← eD]; exact n)⟩))
