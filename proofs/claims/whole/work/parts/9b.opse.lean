/-! each call on both sides: undoing, images, bytes -/
theorem o_44 {d c : Nat} {X : Nat → Nat → zH → Prop} {h : zH} (g : gI h) : zCl (d + 59) 49 [(2, 1)] c h (fun y c h1 => (∀ j, h1 0 j = h 0 j) ∧ zCl (d + 59) 329 [(2, 113)] c h1 (fun b _ h2 => gQ h y b h2) X) X := by
  obtain ⟨t, t', l, l', p, p', b, b', r, f, N, P, s, n, L, I, T, m, gw, gc, gm, gx⟩ := id g
  obtain ⟨⟨wr, wl, wpl⟩, gw2, gw3, gw4, gw5⟩ := id gw
  obtain ⟨rf, cr, cl, cp, cb, clg, cim, ctp, czr, cca⟩ := id gc
  obtain ⟨⟨e5, e6, e7, e8, e9, e10, e11, e12⟩, rt, rl, rp, rb⟩ := rf
  have ht : zIsR t := by unfold zIsR; omega
  have hl : zIsL l := by unfold zIsL; omega
  have hp : zIsP p := by unfold zIsP; omega
  have hb : zIsB b := by unfold zIsB; omega
  have wd := wr_d wr
  have wq := wr_p wr
  have wn := wr_n wr
  have wb := wr_b wr
  have wc := wr_c wr
  have wdd : wD r f N P := ⟨wr, wl, wpl⟩
  have rp' : 78 ≤ p ∧ p ≤ 84 := by clear rt rl rb; omega
  clear rt rl rp rb
  refine b_49 hp ⟨e9, s_50 hp cp wpl.1 clg gw2.1 gw2.2 (fun eL => ⟨fun _ => ⟨fun _ => rfl, ?_⟩, fun v => absurd rfl v⟩) (fun e S L' eL h' f' q4 q6 => ⟨fun v => absurd v (by decide), fun _ => ⟨by rw [f' _ _ (by omega), e9], fun j => f' _ _ (by omega), ?_⟩⟩)⟩
  · exact s_329 (L := L) gw2.2 gm.2.2.2.2.1 gw2.1 (fun _ => gQ_ok g rfl (fun _ _ _ => rfl) (fun _ _ _ => rfl)) (fun e S L' e2 => absurd (eL.symm.trans e2) (List.cons_ne_nil _ _).symm)
  · subst eL
    have gm' := gM_o (H := h') (fun o j a b => f' o j (by omega)) gm
    rw [q6.1]
    refine s_329 (L := (e, S) :: L') gw2.2 gm'.1.2.2.2.2.1 gw2.1 (fun e2 => absurd e2 (List.cons_ne_nil _ _)) (fun e2 S2 L2 e3 h2 f2 z q3 q5 => ?_)
    obtain ⟨e4, e6'⟩ := List.cons.inj e3
    have eS : S = S2 := (Prod.mk.inj e4).2
    subst eS
    subst e6'
    have gw' : gW r f N S L' I T m := ⟨⟨wr, wl, gw2.2.2.1⟩, ⟨by have := gw2.1; rw [List.length_cons] at this; omega, gw2.2.2.2⟩, gw3, gw4, gw5⟩
    have k := gI_pl gw' gc gm gx (h1 := h') (H := h') (h2 := h2) ⟨f', q4, q6⟩ (fun _ _ _ => rfl) ⟨fun o j w => (Decidable.em (o = 113 ∧ j = 0)).elim (fun q => by rw [q.1, q.2, hw_eq ⟨rfl, rfl⟩]; exact z) (fun q => by rw [hw_ne (by omega), f2 o j (by omega)]), q3, q5⟩
    exact ⟨k.1, rfl, k.2⟩
theorem gCl_i {h h' : zH} {t t' l l' p p' b b' : Int} {r : zH} {f : Int → Int} {N : Nat} {P : List (Int × Int)} {s : Int → Int} {n : Int} {L : gLg} {I : gIm} {T : Int → Int} {m : Int} {I' : gIm} (hI : I.length ≤ 3) (fr : ∀ o j, cCel o j → ¬ ((95 ≤ o ∧ o ≤ 112) ∨ (o = 1 ∧ j = 14)) → h' o j = h o j) (q7 : h' 1 14 = I'.length ∧ cImR r h' I') (w : gCl h t t' l l' p p' b b' r f N P s n L I T m) : gCl h' t t' l l' p p' b b' r f N P s n L I' T m := by
  obtain ⟨w1, w2, w3, w4, w5, w6, w7, w8, w9, w10⟩ := w
  have w1' := w1
  obtain ⟨_, e1, e2, e3, e4⟩ := w1'
  have r1 : 30 ≤ t ∧ t ≤ 50 ∧ 30 ≤ t' ∧ t' ≤ 50 := by clear e2 e3 e4; omega
  have r2 : 70 ≤ l ∧ l ≤ 74 ∧ 70 ≤ l' ∧ l' ≤ 74 := by clear e1 e3 e4; omega
  have r3 : 78 ≤ p ∧ p ≤ 84 ∧ 78 ≤ p' ∧ p' ≤ 84 := by clear e1 e2 e4; omega
  have r4 : 90 ≤ b ∧ b ≤ 92 ∧ 90 ≤ b' ∧ b' ≤ 92 := by clear e1 e2 e3; omega
  unfold cCel at fr
  exact ⟨gRf_fr (fun j a c => fr _ _ (by clear e1 e2 e3 e4; omega) (by clear e1 e2 e3 e4; omega)) w1, cRoad_fr (fun o j a c => fr _ _ (by clear e2 e3 e4; omega) (by clear e2 e3 e4; omega)) w2, cLaw_fr (fun o j a => fr _ _ (by clear e1 e3 e4; omega) (by clear e1 e3 e4; omega)) w3, cPlan_fr (fun o j a c => fr _ _ (by clear e1 e2 e4; omega) (by clear e1 e2 e4; omega)) w4, cBook_fr (fun o j a => fr _ _ (by clear e1 e2 e3; omega) (by clear e1 e2 e3; omega)) w5, ⟨by rw [fr _ _ (by clear e1 e2 e4; omega) (by clear e1 e2 e4; omega)]; exact w6.1, cLogR_fr (fun o j a c _ _ => fr _ _ (by clear e1 e2 e4; omega) (by clear e1 e2 e4; omega)) w6.2⟩, q7, ⟨by rw [fr _ _ (by clear e1 e2 e3 e4; omega) (by clear e1 e2 e3 e4; omega)]; exact w8.1, fun k a c => by rw [fr _ _ (by clear e1 e2 e3 e4; omega) (by clear e1 e2 e3 e4; omega)]; exact w8.2 k a c⟩, ⟨fun p a c => by rw [fr _ _ (by clear e1 e2 e3 e4; omega) (by clear e1 e2 e3 e4; omega)]; exact w9.1 p a c, by rw [fr _ _ (by clear e1 e2 e3 e4; omega) (by clear e1 e2 e3 e4; omega)]; exact w9.2.1, by rw [fr _ _ (by clear e1 e2 e3 e4; omega) (by clear e1 e2 e3 e4; omega)]; exact w9.2.2⟩, fun e => cBs_fr ⟨fr _ _ (by clear e1 e2 e3 e4; omega) (by clear e1 e2 e3 e4; omega), fr _ _ (by clear e1 e2 e3 e4; omega) (by clear e1 e2 e3 e4; omega)⟩ (fun i => fr _ _ (by clear e1 e2 e3 e4; omega) (by clear e1 e2 e3 e4; omega)) (w10 (by rw [fr _ _ (by clear e1 e2 e3 e4; omega) (by clear e1 e2 e3 e4; omega)] at e; exact e))⟩
theorem gMl_i {h h' : zH} {r : zH} {f : Int → Int} {N : Nat} {P : List (Int × Int)} {s : Int → Int} {n : Int} {L : gLg} {I : gIm} {T : Int → Int} {m : Int} {I' : gIm} (fr : ∀ o j, mCel o j → ¬ (o = 155 ∨ (o = 113 ∧ j = 72)) → h' o j = h o j) (q6 : h' 113 72 = I'.length ∧ mImR h' I') (w : gMl h r f N P s n L I T m) : gMl h' r f N P s n L I' T m := by
  obtain ⟨w1, w2, w3, w4, w5, w6, w7, w8, w9⟩ := w
  unfold mCel at fr
  exact ⟨mRoad_fr (fun o j a => fr _ _ (by unfold mRo at a; omega) (by unfold mRo at a; omega)) w1, mLaw_fr (fun o j a => fr _ _ (by unfold mLo at a; omega) (by unfold mLo at a; omega)) w2, mPlan_fr (fun o j a => fr _ _ (by omega) (by omega)) w3, mBook_fr (fun o j a => fr _ _ (by omega) (by omega)) w4, ⟨by rw [fr _ _ (by omega) (by omega)]; exact w5.1, mLogR_f (fun j => fr _ _ (by omega) (by omega)) w5.2⟩, q6, ⟨by rw [fr _ _ (by omega) (by omega)]; exact w7.1, fun k a c => by rw [fr _ _ (by omega) (by omega)]; exact w7.2 k a c⟩, fun i a c => by rw [fr _ _ (by omega) (by omega)]; exact w8 i a c, by unfold mCW at w9 ⊢; rw [fr _ _ (by omega) (by omega)]; exact w9⟩
theorem gCl_r {h h' : zH} {t t' l l' p p' b b' : Int} {r : zH} {f : Int → Int} {N : Nat} {P : List (Int × Int)} {s : Int → Int} {n : Int} {L : gLg} {I : gIm} {T : Int → Int} {m : Int} {P' : List (Int × Int)} {L' : gLg} {I' : gIm} (hI : I.length ≤ 3) (fr : ∀ o j, cCel o j → ¬ ((p ≤ o ∧ o ≤ p + 5) ∨ (o = 1 ∧ j = 14)) → h' o j = h o j) (q4 : cPlan p h' P') (q6 : h' p 6 = L'.length ∧ cLogR p h' L') (q7 : h' 1 14 = I'.length ∧ cImR r h' I') (w : gCl h t t' l l' p p' b b' r f N P s n L I T m) : gCl h' t t' l l' p p' b b' r f N P' s n L' I' T m := by
  obtain ⟨w1, w2, w3, w4, w5, w6, w7, w8, w9, w10⟩ := w
  have w1' := w1
  obtain ⟨_, e1, e2, e3, e4⟩ := w1'
  have r1 : 30 ≤ t ∧ t ≤ 50 ∧ 30 ≤ t' ∧ t' ≤ 50 := by clear e2 e3 e4; omega
  have r2 : 70 ≤ l ∧ l ≤ 74 ∧ 70 ≤ l' ∧ l' ≤ 74 := by clear e1 e3 e4; omega
  have r3 : 78 ≤ p ∧ p ≤ 84 ∧ 78 ≤ p' ∧ p' ≤ 84 := by clear e1 e2 e4; omega
  have r4 : 90 ≤ b ∧ b ≤ 92 ∧ 90 ≤ b' ∧ b' ≤ 92 := by clear e1 e2 e3; omega
  unfold cCel at fr
  exact ⟨gRf_fr (fun j a c => fr _ _ (by clear e1 e2 e3 e4; omega) (by clear e1 e2 e3 e4; omega)) w1, cRoad_fr (fun o j a c => fr _ _ (by clear e2 e3 e4; omega) (by clear e2 e3 e4; omega)) w2, cLaw_fr (fun o j a => fr _ _ (by clear e1 e3 e4; omega) (by clear e1 e3 e4; omega)) w3, q4, cBook_fr (fun o j a => fr _ _ (by clear e1 e2 e3; omega) (by clear e1 e2 e3; omega)) w5, q6, q7, ⟨by rw [fr _ _ (by clear e1 e2 e3 e4; omega) (by clear e1 e2 e3 e4; omega)]; exact w8.1, fun k a c => by rw [fr _ _ (by clear e1 e2 e3 e4; omega) (by clear e1 e2 e3 e4; omega)]; exact w8.2 k a c⟩, ⟨fun p a c => by rw [fr _ _ (by clear e1 e2 e3 e4; omega) (by clear e1 e2 e3 e4; omega)]; exact w9.1 p a c, by rw [fr _ _ (by clear e1 e2 e3 e4; omega) (by clear e1 e2 e3 e4; omega)]; exact w9.2.1, by rw [fr _ _ (by clear e1 e2 e3 e4; omega) (by clear e1 e2 e3 e4; omega)]; exact w9.2.2⟩, fun e => cBs_fr ⟨fr _ _ (by clear e1 e2 e3 e4; omega) (by clear e1 e2 e3 e4; omega), fr _ _ (by clear e1 e2 e3 e4; omega) (by clear e1 e2 e3 e4; omega)⟩ (fun i => fr _ _ (by clear e1 e2 e3 e4; omega) (by clear e1 e2 e3 e4; omega)) (w10 (by rw [fr _ _ (by clear e1 e2 e3 e4; omega) (by clear e1 e2 e3 e4; omega)] at e; exact e))⟩
theorem gMl_r {h h' : zH} {r : zH} {f : Int → Int} {N : Nat} {P : List (Int × Int)} {s : Int → Int} {n : Int} {L : gLg} {I : gIm} {T : Int → Int} {m : Int} {P' : List (Int × Int)} {L' : gLg} {I' : gIm} (fr : ∀ o j, mCel o j → ¬ (o = 139 ∨ o = 154 ∨ (o = 113 ∧ (j = 49 ∨ j = 70 ∨ j = 72))) → h' o j = h o j) (q3 : mPlan h' P') (q5 : h' 113 70 = L'.length ∧ mLogR h' 154 0 L') (q6 : h' 113 72 = I'.length ∧ mImR h' I') (w : gMl h r f N P s n L I T m) : gMl h' r f N P' s n L' I' T m := by
  obtain ⟨w1, w2, w3, w4, w5, w6, w7, w8, w9⟩ := w
  unfold mCel at fr
  exact ⟨mRoad_fr (fun o j a => fr _ _ (by unfold mRo at a; omega) (by unfold mRo at a; omega)) w1, mLaw_fr (fun o j a => fr _ _ (by unfold mLo at a; omega) (by unfold mLo at a; omega)) w2, q3, mBook_fr (fun o j a => fr _ _ (by omega) (by omega)) w4, q5, q6, ⟨by rw [fr _ _ (by omega) (by omega)]; exact w7.1, fun k a c => by rw [fr _ _ (by omega) (by omega)]; exact w7.2 k a c⟩, fun i a c => by rw [fr _ _ (by omega) (by omega)]; exact w8 i a c, by unfold mCW at w9 ⊢; rw [fr _ _ (by omega) (by omega)]; exact w9⟩
theorem gCl_t {h h' : zH} {t t' l l' p p' b b' : Int} {r : zH} {f : Int → Int} {N : Nat} {P : List (Int × Int)} {s : Int → Int} {n : Int} {L : gLg} {I : gIm} {T : Int → Int} {m : Int} {T' : Int → Int} {m' : Int} (hI : I.length ≤ 3) (fr : ∀ o j, cCel o j → ¬ ((o = 2 ∧ j = 5) ∨ o = 3) → h' o j = h o j) (q8 : h' 2 5 = m' ∧ ∀ k : Int, 0 ≤ k → k < m' → h' 3 k = (T' k + 128) % 256 - 128) (w : gCl h t t' l l' p p' b b' r f N P s n L I T m) : gCl h' t t' l l' p p' b b' r f N P s n L I T' m' := by
  obtain ⟨w1, w2, w3, w4, w5, w6, w7, w8, w9, w10⟩ := w
  have w1' := w1
  obtain ⟨_, e1, e2, e3, e4⟩ := w1'
  have r1 : 30 ≤ t ∧ t ≤ 50 ∧ 30 ≤ t' ∧ t' ≤ 50 := by clear e2 e3 e4; omega
  have r2 : 70 ≤ l ∧ l ≤ 74 ∧ 70 ≤ l' ∧ l' ≤ 74 := by clear e1 e3 e4; omega
  have r3 : 78 ≤ p ∧ p ≤ 84 ∧ 78 ≤ p' ∧ p' ≤ 84 := by clear e1 e2 e4; omega
  have r4 : 90 ≤ b ∧ b ≤ 92 ∧ 90 ≤ b' ∧ b' ≤ 92 := by clear e1 e2 e3; omega
  unfold cCel at fr
  exact ⟨gRf_fr (fun j a c => fr _ _ (by clear e1 e2 e3 e4; omega) (by clear e1 e2 e3 e4; omega)) w1, cRoad_fr (fun o j a c => fr _ _ (by clear e2 e3 e4; omega) (by clear e2 e3 e4; omega)) w2, cLaw_fr (fun o j a => fr _ _ (by clear e1 e3 e4; omega) (by clear e1 e3 e4; omega)) w3, cPlan_fr (fun o j a c => fr _ _ (by clear e1 e2 e4; omega) (by clear e1 e2 e4; omega)) w4, cBook_fr (fun o j a => fr _ _ (by clear e1 e2 e3; omega) (by clear e1 e2 e3; omega)) w5, ⟨by rw [fr _ _ (by clear e1 e2 e4; omega) (by clear e1 e2 e4; omega)]; exact w6.1, cLogR_fr (fun o j a c _ _ => fr _ _ (by clear e1 e2 e4; omega) (by clear e1 e2 e4; omega)) w6.2⟩, ⟨by rw [fr _ _ (by clear e1 e2 e3 e4; omega) (by clear e1 e2 e3 e4; omega)]; exact w7.1, cImR_fr (fun o j a c => fr _ _ (by clear e1 e2 e3 e4; omega) (by clear e1 e2 e3 e4; omega)) w7.2⟩, q8, ⟨fun p a c => by rw [fr _ _ (by clear e1 e2 e3 e4; omega) (by clear e1 e2 e3 e4; omega)]; exact w9.1 p a c, by rw [fr _ _ (by clear e1 e2 e3 e4; omega) (by clear e1 e2 e3 e4; omega)]; exact w9.2.1, by rw [fr _ _ (by clear e1 e2 e3 e4; omega) (by clear e1 e2 e3 e4; omega)]; exact w9.2.2⟩, fun e => cBs_fr ⟨fr _ _ (by clear e1 e2 e3 e4; omega) (by clear e1 e2 e3 e4; omega), fr _ _ (by clear e1 e2 e3 e4; omega) (by clear e1 e2 e3 e4; omega)⟩ (fun i => fr _ _ (by clear e1 e2 e3 e4; omega) (by clear e1 e2 e3 e4; omega)) (w10 (by rw [fr _ _ (by clear e1 e2 e3 e4; omega) (by clear e1 e2 e3 e4; omega)] at e; exact e))⟩
theorem gMl_t {h h' : zH} {r : zH} {f : Int → Int} {N : Nat} {P : List (Int × Int)} {s : Int → Int} {n : Int} {L : gLg} {I : gIm} {T : Int → Int} {m : Int} {T' : Int → Int} {m' : Int} (fr : ∀ o j, mCel o j → ¬ (o = 115 ∨ (o = 113 ∧ j = 2)) → h' o j = h o j) (q7 : h' 113 2 = m' ∧ ∀ k : Int, 0 ≤ k → k < m' → h' 115 k = T' k) (w : gMl h r f N P s n L I T m) : gMl h' r f N P s n L I T' m' := by
  obtain ⟨w1, w2, w3, w4, w5, w6, w7, w8, w9⟩ := w
  unfold mCel at fr
  exact ⟨mRoad_fr (fun o j a => fr _ _ (by unfold mRo at a; omega) (by unfold mRo at a; omega)) w1, mLaw_fr (fun o j a => fr _ _ (by unfold mLo at a; omega) (by unfold mLo at a; omega)) w2, mPlan_fr (fun o j a => fr _ _ (by omega) (by omega)) w3, mBook_fr (fun o j a => fr _ _ (by omega) (by omega)) w4, ⟨by rw [fr _ _ (by omega) (by omega)]; exact w5.1, mLogR_f (fun j => fr _ _ (by omega) (by omega)) w5.2⟩, ⟨by rw [fr _ _ (by omega) (by omega)]; exact w6.1, mImR_f (fun j => fr _ _ (by omega) (by omega)) w6.2⟩, q7, fun i a c => by rw [fr _ _ (by omega) (by omega)]; exact w8 i a c, by unfold mCW at w9 ⊢; rw [fr _ _ (by omega) (by omega)]; exact w9⟩
theorem o_45 {d c : Nat} {X : Nat → Nat → zH → Prop} {h : zH} (g : gI h) : zCl (d + 59) 53 [(2, 1)] c h (fun y c h1 => (∀ j, h1 0 j = h 0 j) ∧ zCl (d + 59) 331 [(2, 113)] c h1 (fun b _ h2 => gQ h y b h2) X) X := by
  obtain ⟨t, t', l, l', p, p', b, b', r, f, N, P, s, n, L, I, T, m, gw, gc, gm, gx⟩ := id g
  obtain ⟨⟨wr, wl, wpl⟩, gw2, gw3, gw4, gw5⟩ := id gw
  obtain ⟨rf, cr, cl, cp, cb, clg, cim, ctp, czr, cca⟩ := id gc
  obtain ⟨⟨e5, e6, e7, e8, e9, e10, e11, e12⟩, rt, rl, rp, rb⟩ := rf
  have ht : zIsR t := by unfold zIsR; omega
  have hl : zIsL l := by unfold zIsL; omega
  have hp : zIsP p := by unfold zIsP; omega
  have hb : zIsB b := by unfold zIsB; omega
  have wd := wr_d wr
  have wq := wr_p wr
  have wn := wr_n wr
  have wb := wr_b wr
  have wc := wr_c wr
  have wdd : wD r f N P := ⟨wr, wl, wpl⟩
  have hp' : p = 78 ∨ p = 84 := by clear rt rl rb; omega
  have rp' : 78 ≤ p ∧ p ≤ 84 := by clear rt rl rb; omega
  clear rt rl rp rb
  refine s_53 hp' e9 cp wpl gw2.2 clg gw2.1 cim gw3 (fun e3 => ⟨fun _ => rfl, ?_⟩) (fun l3 h' f' q7 => ⟨fun j => f' _ _ (by omega) (by omega), ?_⟩)
  · exact s_331 gm.2.2.1 wpl.1 gw2.2 gm.2.2.2.2.1 gw2.1 gm.2.2.2.2.2.1 gw3 cim.2 (fun _ => gQ_ok g rfl (fun _ _ _ => rfl) (fun _ _ _ => rfl)) (fun l => absurd l (by omega))
  · have gm' := gM_o (H := h') (fun o j a b => f' o j (by omega) (by omega)) gm
    refine s_331 gm'.1.2.2.1 wpl.1 gw2.2 gm'.1.2.2.2.2.1 gw2.1 gm'.1.2.2.2.2.2.1 gw3 cim.2 (fun e => absurd e (by omega)) (fun _ h2 f2 z q6 => ?_)
    have e0 : ∀ o j, o < 113 → h2 o j = h' o j := fun o j q => f2 o j (by omega)
    have e : ∀ o j, ¬ ((95 ≤ o ∧ o ≤ 112) ∨ (o = 1 ∧ j = 14)) → ¬ (o = 155 ∨ (o = 113 ∧ (j = 0 ∨ j = 72))) → h2 o j = h o j := fun o j a a' => by rw [f2 o j a', f' o j (by omega) (by omega)]
    have gw' : gW r f N P L ((P, L) :: I) T m := ⟨⟨wr, wl, wpl⟩, gw2, by rw [List.length_cons]; omega, gw4, gw5⟩
    refine ⟨⟨t, t', l, l', p, p', b, b', r, f, N, P, s, n, L, (P, L) :: I, T, m, gw', gCl_i gw3 (fun o j a a' => e o j a' (by unfold cCel at a; omega)) ⟨by rw [e0 _ _ (by omega)]; exact q7.1, cImR_fr (fun o j a c => e0 _ _ (by have := gw'.2.2.1; omega)) q7.2⟩ gc, gMl_i (fun o j a a' => e o j (by unfold mCel at a; omega) (by unfold mCel at a; omega)) q6 gm, gX_fr gx (fun o j a => e o j (by omega) (by omega))⟩, rfl, fun j => e _ _ (by omega) (by omega)⟩
theorem o_46 {d c : Nat} {X : Nat → Nat → zH → Prop} {h : zH} (g : gI h) : zCl (d + 59) 55 [(2, 1)] c h (fun y c h1 => (∀ j, h1 0 j = h 0 j) ∧ zCl (d + 59) 332 [(2, 113)] c h1 (fun b _ h2 => gQ h y b h2) X) X := by
  obtain ⟨t, t', l, l', p, p', b, b', r, f, N, P, s, n, L, I, T, m, gw, gc, gm, gx⟩ := id g
  obtain ⟨⟨wr, wl, wpl⟩, gw2, gw3, gw4, gw5⟩ := id gw
  obtain ⟨rf, cr, cl, cp, cb, clg, cim, ctp, czr, cca⟩ := id gc
  obtain ⟨⟨e5, e6, e7, e8, e9, e10, e11, e12⟩, rt, rl, rp, rb⟩ := rf
  have ht : zIsR t := by unfold zIsR; omega
  have hl : zIsL l := by unfold zIsL; omega
  have hp : zIsP p := by unfold zIsP; omega
  have hb : zIsB b := by unfold zIsB; omega
  have wd := wr_d wr
  have wq := wr_p wr
  have wn := wr_n wr
  have wb := wr_b wr
  have wc := wr_c wr
  have wdd : wD r f N P := ⟨wr, wl, wpl⟩
  have hp' : p = 78 ∨ p = 84 := by clear rt rl rb; omega
  have rp' : 78 ≤ p ∧ p ≤ 84 := by clear rt rl rb; omega
  clear rt rl rp rb
  refine s_55 hp' e9 cim gw3 (fun eI => ⟨fun _ => rfl, ?_⟩) (fun P2 L2 I2 eI h' f' q4 q6 q7 => ⟨fun j => f' _ _ (by omega) (by omega), ?_⟩)
  · exact s_332 gm.2.2.2.2.2.1 gw3 cim.2 (fun _ => gQ_ok g rfl (fun _ _ _ => rfl) (fun _ _ _ => rfl)) (fun P L I e => absurd (eI.symm.trans e) (List.cons_ne_nil _ _).symm)
  · subst eI
    have gm' := gM_o (H := h') (fun o j a b => f' o j (by omega) (by omega)) gm
    refine s_332 gm'.1.2.2.2.2.2.1 gw3 cim.2 (fun e => absurd e (List.cons_ne_nil _ _)) (fun P3 L3 I3 e3 h2 f2 z r3 r5 r6 => ?_)
    obtain ⟨e4, e6'⟩ := List.cons.inj e3
    have eP : P2 = P3 := (Prod.mk.inj e4).1
    have eL : L2 = L3 := (Prod.mk.inj e4).2
    subst eP
    subst eL
    subst e6'
    have e0 : ∀ o j, o < 113 → h2 o j = h' o j := fun o j q => f2 o j (by omega)
    have e : ∀ o j, ¬ ((p ≤ o ∧ o ≤ p + 5) ∨ (o = 1 ∧ j = 14)) → ¬ (o = 139 ∨ o = 154 ∨ (o = 113 ∧ (j = 0 ∨ j = 49 ∨ j = 70 ∨ j = 72))) → h2 o j = h o j := fun o j a a' => by rw [f2 o j a', f' o j (by omega) (by omega)]
    have ci := cim.2.1
    have l3 := gw3
    rw [List.length_cons] at l3
    have gw' : gW r f N P2 L2 I2 T m := ⟨⟨wr, wl, ci.2.2.2.1⟩, ⟨ci.2.2.2.2.1, ci.2.2.2.2.2⟩, by omega, gw4, gw5⟩
    refine ⟨⟨t, t', l, l', p, p', b, b', r, f, N, P2, s, n, L2, I2, T, m, gw', gCl_r gw3 (fun o j a a' => e o j a' (by unfold cCel at a; omega)) (cPlan_fr (fun o j a c => e0 _ _ (by omega)) q4) ⟨by rw [e0 _ _ (by omega)]; exact q6.1, cLogR_fr (fun o j a c _ _ => e0 _ _ (by omega)) q6.2⟩ ⟨by rw [e0 _ _ (by omega)]; exact q7.1, cImR_fr (fun o j a c => e0 _ _ (by omega)) q7.2⟩ gc, gMl_r (fun o j a a' => e o j (by unfold mCel at a; omega) (by unfold mCel at a; omega)) r3 r5 r6 gm, gX_fr gx (fun o j a => e o j (by omega) (by omega))⟩, rfl, fun j => e _ _ (by omega) (by omega)⟩
def tpA (T : Int → Int) (m : Int) (F : Int → Int) : Int → Int := fun k => if k < m then T k else F (k - m)
theorem o_0 {d c : Nat} {X : Nat → Nat → zH → Prop} {h : zH} {x1 x2 x3 x4 x5 : Int} (g : gI h) : zCl (d + 59) 14 [(2, 1), (0, x1), (0, x2), (0, x3), (0, x4), (0, x5)] c h (fun y c h1 => (∀ j, h1 0 j = h 0 j) ∧ zCl (d + 59) 219 [(2, 113), (0, x1), (0, x2), (0, x3), (0, x4), (0, x5)] c h1 (fun b _ h2 => gQ h y b h2) X) X := by
  obtain ⟨t, t', l, l', p, p', b, b', r, f, N, P, s, n, L, I, T, m, gw, gc, gm, gx⟩ := id g
  obtain ⟨⟨wr, wl, wpl⟩, gw2, gw3, gw4, gw5⟩ := id gw
  obtain ⟨rf, cr, cl, cp, cb, clg, cim, ctp, czr, cca⟩ := id gc
  obtain ⟨⟨e5, e6, e7, e8, e9, e10, e11, e12⟩, rt, rl, rp, rb⟩ := rf
  have ht : zIsR t := by unfold zIsR; omega
  have hl : zIsL l := by unfold zIsL; omega
  have hp : zIsP p := by unfold zIsP; omega
  have hb : zIsB b := by unfold zIsB; omega
  have wd := wr_d wr
  have wq := wr_p wr
  have wn := wr_n wr
  have wb := wr_b wr
  have wc := wr_c wr
  have wdd : wD r f N P := ⟨wr, wl, wpl⟩
  clear rt rl rp rb
  refine s_14 ctp.1 gw4 (fun g5 => ⟨fun _ => rfl, ?_⟩) (fun l5 h' f' a1 a2 => ⟨fun j => f' _ _ (by omega) (by omega), ?_⟩)
  · exact s_219 gm.2.2.2.2.2.2.1.1 gw4 (fun _ => gQ_ok g rfl (fun _ _ _ => rfl) (fun _ _ _ => rfl)) (fun l => absurd l (by omega))
  · have gm' := gM_o (H := h') (fun o j a b => f' o j (by omega) (by omega)) gm
    refine s_219 (m := m) gm'.1.2.2.2.2.2.2.1.1 gw4 (fun g5 => absurd g5 (by omega)) (fun _ h2 f2 z b1 b2 => ?_)
    have e0 : ∀ o j, o < 113 → h2 o j = h' o j := fun o j q => f2 o j (by omega) (by omega)
    have e : ∀ o j, ¬ ((o = 2 ∧ j = 5) ∨ o = 3) → ¬ (o = 115 ∨ (o = 113 ∧ (j = 0 ∨ j = 2))) → h2 o j = h o j := fun o j a a' => by rw [f2 o j (by omega) (by omega), f' o j (by omega) (by omega)]
    have gw' : gW r f N P L I (tpA T m (fdB x1 x2 x3 x4 x5)) (m + 20) := by
      refine ⟨⟨wr, wl, wpl⟩, gw2, gw3, by omega, fun k a b => ?_⟩
      unfold tpA
      by_cases q : k < m
      · rw [if_pos q]
        exact gw5 k a q
      · rw [if_neg q]
        unfold fdB
        omega
    refine ⟨⟨t, t', l, l', p, p', b, b', r, f, N, P, s, n, L, I, tpA T m (fdB x1 x2 x3 x4 x5), m + 20, gw', gCl_t gw3 (fun o j a a' => e o j a' (by unfold cCel at a; omega)) ⟨by rw [e0 _ _ (by omega)]; exact a1, fun k a b => ?_⟩ gc, gMl_t (fun o j a a' => e o j (by unfold mCel at a; omega) (by unfold mCel at a; omega)) ⟨b1, fun k a b => ?_⟩ gm, gX_fr gx (fun o j a => e o j (by omega) (by omega))⟩, rfl, fun j => e _ _ (by omega) (by omega)⟩
    · unfold tpA
      rw [e0 _ _ (by omega)]
      by_cases q : k < m
      · rw [if_pos q, f' _ _ (by omega) (by omega)]
        exact ctp.2 k a q
      · rw [if_neg q, show k = m + (k - m) by omega, a2 (k - m) (by omega) (by omega), show m + (k - m) - m = k - m by omega]
    · unfold tpA
      by_cases q : k < m
      · rw [if_pos q, f2 _ _ (by omega) (by omega), f' _ _ (by omega) (by omega)]
        exact gm.2.2.2.2.2.2.1.2 k a q
      · rw [if_neg q, show k = m + (k - m) by omega, b2 (k - m) (by omega) (by omega), show m + (k - m) - m = k - m by omega]
