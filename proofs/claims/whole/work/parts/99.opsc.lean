/-! each call on both sides: what only asks, the third part -/
theorem sCp_b {r : zH} {f : Int → Int} {N : Nat} : ∀ {k : Nat} {s z : sS} {q : List (Int × Int)}, sCp r f N k s q z → ∀ i : Nat, i < k → (0 ≤ (q.getD i (0, 0)).1 ∧ (q.getD i (0, 0)).1 < r 0 1) ∧ (1 ≤ (q.getD i (0, 0)).2 ∧ (q.getD i (0, 0)).2 ≤ sNx r)
  | 0, _, _, _, _, i, hi => absurd hi (Nat.not_lt_zero i)
  | k + 1, _, _, _, h, i, hi => by
    obtain ⟨d, x, q', e, hd, hx, _, _, h⟩ := h
    subst e
    cases i with
    | zero => exact ⟨hd, hx⟩
    | succ i => exact sCp_b h i (by omega)
theorem sFull_b {r : zH} {f : Int → Int} {N : Nat} (h : (sFull r f N).1.1 ≠ 1000000) : (sFull r f N).2.length = (r 0 1).toNat ∧ ∀ i : Int, 0 ≤ i → i < r 0 1 → (0 ≤ pD (sFull r f N).2 i ∧ pD (sFull r f N).2 i < r 0 1) ∧ (1 ≤ pB (sFull r f N).2 i ∧ pB (sFull r f N).2 i ≤ sNx r) := by
  rcases (sPl_ok (r := r) (f := f) (N := N) (r 0 1).toNat s00 B00).1 with e | ⟨q, z, hc, e, _⟩
  · exact absurd (by unfold sFull; rw [e]; rfl) h
  · have e2 : (sFull r f N).2 = q := by
      unfold sFull
      rw [e]
      show z.2.2.2 = q
      rw [sCp_q hc]
      rfl
    rw [e2]
    exact ⟨sCp_len hc, fun i a b => sCp_b hc i.toNat (by omega)⟩
/-- cells of the search for the soonest plan -/
def scS (o j : Int) : Prop := (o = 11 ∧ 8 ≤ j ∧ j ≤ 10) ∨ (12 ≤ o ∧ o ≤ 15) ∨ (18 ≤ o ∧ o ≤ 22) ∨ ((o = 23 ∨ o = 24) ∧ 0 < j) ∨ o = 25
theorem gCl_frs {h h' : zH} {t t' l l' p p' b b' : Int} {r : zH} {f : Int → Int} {N : Nat} {P : List (Int × Int)} {s : Int → Int} {n : Int} {L : gLg} {I : gIm} {T : Int → Int} {m : Int} (hI : I.length ≤ 3) (fr : ∀ o j, cCel o j → ¬ scS o j → h' o j = h o j) (ca : h' 11 8 ≠ 0 → cBs h' (sFull r f N)) (w : gCl h t t' l l' p p' b b' r f N P s n L I T m) : gCl h' t t' l l' p p' b b' r f N P s n L I T m := by
  obtain ⟨w1, w2, w3, w4, w5, w6, w7, w8, w9, w10⟩ := w
  have w1' := w1
  obtain ⟨_, e1, e2, e3, e4⟩ := w1'
  have fr' : ∀ o j, cCel o j → (o = 23 ∨ o = 24 → j ≤ 0) → (o ≤ 3 ∨ o = 17 ∨ o = 23 ∨ o = 24 ∨ 30 ≤ o) → h' o j = h o j := fun o j a c d => fr o j a (by unfold scS; omega)
  unfold cCel at fr'
  refine ⟨gRf_fr (fun j a c => fr' _ _ (by omega) (by omega) (by omega)) w1, cRoad_fr (fun o j a c => fr' _ _ (by omega) (by omega) (by omega)) w2, cLaw_fr (fun o j a => fr' _ _ (by omega) (by omega) (by omega)) w3, cPlan_fr (fun o j a c => fr' _ _ (by omega) (by omega) (by omega)) w4, cBook_fr (fun o j a => fr' _ _ (by omega) (by omega) (by omega)) w5, ⟨?_, cLogR_fr (fun o j a c _ _ => fr' _ _ (by omega) (by omega) (by omega)) w6.2⟩, ⟨?_, cImR_fr (fun o j a c => fr' _ _ (by omega) (by omega) (by omega)) w7.2⟩, ⟨?_, fun k a c => ?_⟩, ⟨fun p a c => ?_, ?_, ?_⟩, ca⟩
  · rw [fr' _ _ (by omega) (by omega) (by omega)]; exact w6.1
  · rw [fr' _ _ (by omega) (by omega) (by omega)]; exact w7.1
  · rw [fr' _ _ (by omega) (by omega) (by omega)]; exact w8.1
  · rw [fr' _ _ (by omega) (by omega) (by omega)]; exact w8.2 k a c
  · rw [fr' _ _ (by omega) (by omega) (by omega)]; exact w9.1 p a c
  · rw [fr' _ _ (by omega) (by omega) (by omega)]; exact w9.2.1
  · rw [fr' _ _ (by omega) (by omega) (by omega)]; exact w9.2.2
theorem gP_oks {h h1 h2 : zH} {V : Int} {t t' l l' p p' b b' : Int} {r : zH} {f : Int → Int} {N : Nat} {P : List (Int × Int)} {s : Int → Int} {n : Int} {L : gLg} {I : gIm} {T : Int → Int} {m : Int} (gw : gW r f N P L I T m) (gc : gCl h t t' l l' p p' b b' r f N P s n L I T m) (gm : gMl h r f N P s n L I T m) (x : gX h) (f1 : ∀ o j, ¬ scC o j → ¬ scS o j → h1 o j = h o j) (ca : h1 11 8 ≠ 0 → cBs h1 (sFull r f N)) (f2 : ∀ o j, ¬ scM o j → h2 o j = (hw (hw h1 156 0 V) 113 0 0) o j) : gP h 0 V h2 := by
  have e0 : ∀ o j, o < 113 → h2 o j = h1 o j := fun o j b => by rw [f2 o j (by unfold scM; omega), hw_ne (by omega), hw_ne (by omega)]
  have e : ∀ o j, ¬ scC o j → ¬ scS o j → ¬ scM o j → ¬ (o = 156 ∧ j = 0) → ¬ (o = 113 ∧ j = 0) → h2 o j = h o j := fun o j a a' b c d => by rw [f2 o j b, hw_ne (by omega), hw_ne (by omega), f1 o j a a']
  refine ⟨⟨t, t', l, l', p, p', b, b', r, f, N, P, s, n, L, I, T, m, gw, gCl_frs gw.2.2.1 (fun o j a a' => e o j (by unfold cCel at a; unfold scC; omega) a' (by unfold cCel at a; unfold scM; omega) (by unfold cCel at a; omega) (by unfold cCel at a; omega)) (fun q => ?_) gc, gMl_fr (fun o j a => e o j (by unfold mCel at a; unfold scC; omega) (by unfold mCel at a; unfold scS; omega) (by unfold mCel at a; unfold scM; omega) (by unfold mCel at a; omega) (by unfold mCel at a; omega)) gm, ?_⟩, ?_, fun _ => ?_, fun j => ?_⟩
  · rw [e0 _ _ (by omega)] at q
    exact cBs_fr ⟨e0 _ _ (by omega), e0 _ _ (by omega)⟩ (fun i => e0 _ _ (by omega)) (ca q)
  · have k : ∀ o j, o = 1 ∧ 15 ≤ j ∨ o = 2 ∨ o = 113 ∧ j = 8 ∨ o = 114 → h2 o j = h o j := fun o j q => e o j (by unfold scC; omega) (by unfold scS; omega) (by unfold scM; omega) (by omega) (by omega)
    unfold gX at x ⊢
    rw [k _ _ (by omega), k _ _ (by omega), k _ _ (by omega), k _ _ (by omega), k _ _ (by omega), k _ _ (by omega), k _ _ (by omega), k _ _ (by omega)]
    exact x
  · rw [f2 _ _ (by unfold scM; omega), hw_eq ⟨rfl, rfl⟩]
  · rw [f2 _ _ (by unfold scM; omega), hw_ne (by omega), hw_eq ⟨rfl, rfl⟩]
  · rw [e _ _ (by unfold scC; omega) (by unfold scS; omega) (by unfold scM; omega) (by omega) (by omega)]
theorem comb2s {h : zH} {c : Nat} {c0 c1 : Prop} {V : Int} {t t' l l' p p' b b' : Int} {r : zH} {f : Int → Int} {N : Nat} {P : List (Int × Int)} {s : Int → Int} {n : Int} {L : gLg} {I : gIm} {T : Int → Int} {m : Int} (E0 E1 : Nat) (Zc : gR → gXx → Prop) (Zm : Nat → zH → gR → Prop) (Zh : gR → Prop) (gw : gW r f N P L I T m) (gc : gCl h t t' l l' p p' b b' r f N P s n L I T m) (gm : gMl h r f N P s n L I T m) (x : gX h) (g : gI h) (hE : (E0 = 0 ∧ E1 = 1) ∨ (E0 = 1 ∧ E1 = 2))
    (B : ∀ R', Zc (fun y c h => R' 0 c (hw h 156 0 y)) (fun E c h => (E = E0 ∧ R' 1 c h) ∨ (E = E1 ∧ R' 2 c h)) → Zh R')
    (C : ∀ R' X', (c0 → c1 → ∀ h', (∀ o j, ¬ scC o j → ¬ scS o j → h' o j = h o j) → (h' 11 8 ≠ 0 → cBs h' (sFull r f N)) → R' V c h') → (¬ c0 → X' E0 (c + 1) (hw h 1 (15 + (E0 : Int)) (w32 (h 1 (15 + (E0 : Int)) + 1)))) → (c0 → ¬ c1 → X' E1 (c + 1) (hw h 1 (15 + (E1 : Int)) (w32 (h 1 (15 + (E1 : Int)) + 1)))) → Zc R' X')
    (M : ∀ c H R', (∀ o j, 113 ≤ o → o ≠ 156 → H o j = h o j) → (c0 → c1 → ∀ h', (∀ o j, ¬ scM o j → h' o j = (hw H 113 0 0) o j) → R' V c h') → (¬ c0 → R' 0 c (hw (hw (hw H 113 0 0) 113 0 1) 114 (E0 : Int) (w32 (H 114 (E0 : Int) + 1)))) → (c0 → ¬ c1 → R' 0 c (hw (hw (hw H 113 0 0) 113 0 2) 114 (E1 : Int) (w32 (H 114 (E1 : Int) + 1)))) → Zm c H R') :
    Zh (fun k c h1 => (∀ j, h1 0 j = h 0 j) ∧ Zm c h1 (fun b _ h2 => gP h k b h2)) := by
  refine B _ (C _ _ (fun h0 hc h1 f1 ca => ⟨fun j => by rw [hw_ne (by omega), f1 0 j (by unfold scC; omega) (by unfold scS; omega)], M _ _ _ (fun o j a b => by rw [hw_ne (by omega), f1 o j (by unfold scC; omega) (by unfold scS; omega)]) (fun _ _ h2 f2 => gP_oks gw gc gm x f1 ca f2) (fun n => absurd h0 n) (fun _ n => absurd hc n)⟩) (fun nc => Or.inl ⟨rfl, fun j => by rw [hw_ne (by omega)], M _ _ _ (fun o j a b => by rw [hw_ne (by omega)]) (fun y _ => absurd y nc) (fun _ => ?_) (fun y => absurd y nc)⟩) (fun y0 nc => Or.inr ⟨rfl, fun j => by rw [hw_ne (by omega)], M _ _ _ (fun o j a b => by rw [hw_ne (by omega)]) (fun _ y => absurd y nc) (fun n => absurd y0 n) (fun _ _ => ?_)⟩))
  · have := gP_no (b := 0) g (i := (E0 : Int)) (k := 1) (by omega) (by decide)
    rw [hw_ne (o := 1) (by omega)]
    exact this
  · have := gP_no (b := 0) g (i := (E1 : Int)) (k := 2) (by omega) (by decide)
    rw [hw_ne (o := 1) (by omega)]
    exact this
theorem o_23 {d c : Nat} {X : Nat → Nat → zH → Prop} {h : zH} {x1 x2 x3 : Int} (g : gI h) : zCl (d + 59) 155 [(2, 1), (0, x1), (0, x2), (0, x3), (2, 156)] c h (fun k c h1 => (∀ j, h1 0 j = h 0 j) ∧ zCl (d + 59) 289 [(2, 113), (0, x1), (0, x2), (0, x3)] c h1 (fun b _ h2 => gP h k b h2) X) X := by
  obtain ⟨t, t', l, l', p, p', b, b', r, f, N, P, s, n, L, I, T, m, gw, gc, gm, gx⟩ := id g
  obtain ⟨⟨wr, wl, wpl⟩, gw2, gw3, gw4, gw5⟩ := gw
  obtain ⟨rf, cr, cl, cp, cb, clg, cim, ctp, czr, cca⟩ := gc
  obtain ⟨⟨e5, e6, e7, e8, e9, e10, e11, e12⟩, rt, rl, rp, rb⟩ := rf
  have ht : zIsR t := by unfold zIsR; omega
  have hl : zIsL l := by unfold zIsL; omega
  have hp : zIsP p := by unfold zIsP; omega
  have hb : zIsB b := by unfold zIsB; omega
  have wd := wr_d wr
  have wq := wr_p wr
  have wn := wr_n wr
  have wb := wr_b wr
  have wc := wr_c wr
  clear rt rl rp rb
  obtain ⟨pe, pl, pg⟩ := zShl_b wr
  refine comb1 (c := c) (cond := (0 ≤ x1 ∧ x1 ≤ 59) ∧ (0 ≤ x2 ∧ x2 ≤ (2 : Int) ^ (r 0 2).toNat - 1) ∧ (0 ≤ x3 ∧ x3 ≤ 240)) (V := mSink r x1 x2 x3) 1 (fun R X => zCl (d + 58) 156 [(2, 1), (0, x1), (0, x2), (0, x3)] c h R X) (fun c H R => zCl (d + 59) 289 [(2, 113), (0, x1), (0, x2), (0, x3)] c H R X) (fun R => zCl (d + 59) 155 [(2, 1), (0, x1), (0, x2), (0, x3), (2, 156)] c h R X) g (by decide) (fun R' z => b_155 z) (fun R' X' ok no => ?_) (fun c H R' fr ok no => ?_)
  · refine b_156 ht (s_61 (fun lo0 hi0 => ⟨e5, ?_⟩) (fun n => no (by omega)))
    rw [cr_b cr, pe, w32_e (by omega) (by omega)]
    exact s_61 (fun lo1 hi1 => s_61 (fun lo2 hi2 => ⟨e5, s_157 ht cr wr (by omega) (by omega) (ok ⟨⟨lo0, hi0⟩, ⟨lo1, hi1⟩, ⟨lo2, hi2⟩⟩ h (fun _ _ _ => rfl))⟩) (fun n => no (by omega))) (fun n => no (by omega))
  · have gm' := gM_o fr gm
    obtain ⟨mr, ml, mp, mb, mlg, mim, mtp, mz, mcw⟩ := gm'.2
    have eD := mr_b mr
    refine b_289 (s290 (fun c0 => ⟨fun v => absurd v (by decide), fun _ => ⟨fun q => f222 (by decide) (by decide) h00 ⟨fun v => absurd rfl v, fun _ => no (by omega)⟩, fun q => ?_⟩⟩) (fun n => ⟨fun _ => f222 (by decide) (by decide) h00 ⟨fun v => absurd rfl v, fun _ => no (by omega)⟩, fun v => absurd rfl v⟩))
    rw [eD, pe]
    exact ⟨fun q => f222 (by decide) (by decide) h00 ⟨fun v => absurd rfl v, fun _ => no (by omega)⟩, fun q => s291 (fun c2 => ⟨fun v => absurd v (by decide), fun _ => t222 (by decide) (by decide) h00 ⟨fun _ => s_292 mr wr (by omega) (by omega) (ok ⟨c0, ⟨by omega, by omega⟩, c2⟩ _ (fun _ _ _ => rfl)), fun v => absurd v (by decide)⟩⟩) (fun n => ⟨fun _ => f222 (by decide) (by decide) h00 ⟨fun v => absurd rfl v, fun _ => no (by omega)⟩, fun v => absurd rfl v⟩)⟩
theorem o_24 {d c : Nat} {X : Nat → Nat → zH → Prop} {h : zH} {x1 x2 x3 : Int} (g : gI h) : zCl (d + 59) 158 [(2, 1), (0, x1), (0, x2), (0, x3), (2, 156)] c h (fun k c h1 => (∀ j, h1 0 j = h 0 j) ∧ zCl (d + 59) 294 [(2, 113), (0, x1), (0, x2), (0, x3)] c h1 (fun b _ h2 => gP h k b h2) X) X := by
  obtain ⟨t, t', l, l', p, p', b, b', r, f, N, P, s, n, L, I, T, m, gw, gc, gm, gx⟩ := id g
  obtain ⟨⟨wr, wl, wpl⟩, gw2, gw3, gw4, gw5⟩ := gw
  obtain ⟨rf, cr, cl, cp, cb, clg, cim, ctp, czr, cca⟩ := gc
  obtain ⟨⟨e5, e6, e7, e8, e9, e10, e11, e12⟩, rt, rl, rp, rb⟩ := rf
  have ht : zIsR t := by unfold zIsR; omega
  have hl : zIsL l := by unfold zIsL; omega
  have hp : zIsP p := by unfold zIsP; omega
  have hb : zIsB b := by unfold zIsB; omega
  have wd := wr_d wr
  have wq := wr_p wr
  have wn := wr_n wr
  have wb := wr_b wr
  have wc := wr_c wr
  clear rt rl rp rb
  refine comb1 (c := c) (cond := (0 ≤ x1 ∧ x1 ≤ 59) ∧ (0 ≤ x2 ∧ x2 ≤ 240) ∧ (0 ≤ x3 ∧ x3 ≤ 9999)) (V := mUnd r x1 x2 x3 ((2 : Int) ^ (r 0 2).toNat).toNat) 1 (fun R X => zCl (d + 58) 159 [(2, 1), (0, x1), (0, x2), (0, x3)] c h R X) (fun c H R => zCl (d + 59) 294 [(2, 113), (0, x1), (0, x2), (0, x3)] c H R X) (fun R => zCl (d + 59) 158 [(2, 1), (0, x1), (0, x2), (0, x3), (2, 156)] c h R X) g (by decide) (fun R' z => b_158 z) (fun R' X' ok no => ?_) (fun c H R' fr ok no => ?_)
  · exact b_159 ht (s_61 (fun lo0 hi0 => (s_61 (fun lo1 hi1 => (s_61 (fun lo2 hi2 => s_159_36 ht e5 cr wr (by omega) (by omega) (ok ⟨⟨lo0, hi0⟩, ⟨lo1, hi1⟩, ⟨lo2, hi2⟩⟩ h (fun _ _ _ => rfl))) (fun n => no (by omega)))) (fun n => no (by omega)))) (fun n => no (by omega)))
  · have gm' := gM_o fr gm
    obtain ⟨mr, ml, mp, mb, mlg, mim, mtp, mz, mcw⟩ := gm'.2
    exact b_294 (s290 (fun c0 => ⟨fun v => absurd v (by decide), fun _ => (s291 (fun c1 => ⟨fun v => absurd v (by decide), fun _ => (s_254 (fun c2 => ⟨fun v => absurd v (by decide), fun _ => t222 (by decide) (by decide) h00 ⟨fun _ => s_294_52 mr wr (by omega) (by omega) (ok ⟨c0, c1, c2⟩ _ (fun _ _ _ => rfl)), fun v => absurd v (by decide)⟩⟩) (fun n => ⟨fun _ => f222 (by decide) (by decide) h00 ⟨fun v => absurd rfl v, fun _ => no (by omega)⟩, fun v => absurd rfl v⟩))⟩) (fun n => ⟨fun _ => f222 (by decide) (by decide) h00 ⟨fun v => absurd rfl v, fun _ => no (by omega)⟩, fun v => absurd rfl v⟩))⟩) (fun n => ⟨fun _ => f222 (by decide) (by decide) h00 ⟨fun v => absurd rfl v, fun _ => no (by omega)⟩, fun v => absurd rfl v⟩))
theorem o_25 {d c : Nat} {X : Nat → Nat → zH → Prop} {h : zH} {x1 x2 x3 x4 : Int} (g : gI h) : zCl (d + 59) 160 [(2, 1), (0, x1), (0, x2), (0, x3), (0, x4), (2, 156)] c h (fun k c h1 => (∀ j, h1 0 j = h 0 j) ∧ zCl (d + 59) 295 [(2, 113), (0, x1), (0, x2), (0, x3), (0, x4)] c h1 (fun b _ h2 => gP h k b h2) X) X := by
  obtain ⟨t, t', l, l', p, p', b, b', r, f, N, P, s, n, L, I, T, m, gw, gc, gm, gx⟩ := id g
  obtain ⟨⟨wr, wl, wpl⟩, gw2, gw3, gw4, gw5⟩ := gw
  obtain ⟨rf, cr, cl, cp, cb, clg, cim, ctp, czr, cca⟩ := gc
  obtain ⟨⟨e5, e6, e7, e8, e9, e10, e11, e12⟩, rt, rl, rp, rb⟩ := rf
  have ht : zIsR t := by unfold zIsR; omega
  have hl : zIsL l := by unfold zIsL; omega
  have hp : zIsP p := by unfold zIsP; omega
  have hb : zIsB b := by unfold zIsB; omega
  have wd := wr_d wr
  have wq := wr_p wr
  have wn := wr_n wr
  have wb := wr_b wr
  have wc := wr_c wr
  clear rt rl rp rb
  refine comb1 (c := c) (cond := (0 ≤ x1 ∧ x1 ≤ 59) ∧ (0 ≤ x2 ∧ x2 ≤ 99) ∧ (0 ≤ x3 ∧ x3 ≤ 240) ∧ (0 ≤ x4 ∧ x4 ≤ 1)) (V := (if x4 = 0 then mPuB r x1 x2 x3 59 else mPuV r x1 x2 x3 (mPuB r x1 x2 x3 59))) 1 (fun R X => zCl (d + 58) 161 [(2, 1), (0, x1), (0, x2), (0, x3), (0, x4)] c h R X) (fun c H R => zCl (d + 59) 295 [(2, 113), (0, x1), (0, x2), (0, x3), (0, x4)] c H R X) (fun R => zCl (d + 59) 160 [(2, 1), (0, x1), (0, x2), (0, x3), (0, x4), (2, 156)] c h R X) g (by decide) (fun R' z => b_160 z) (fun R' X' ok no => ?_) (fun c H R' fr ok no => ?_)
  · exact b_161 ht (s_61 (fun lo0 hi0 => (s_61 (fun lo1 hi1 => (s_61 (fun lo2 hi2 => (s_61 (fun lo3 hi3 => s_161_44 ht e5 cr wr (by omega) (by omega) (by omega) (ok ⟨⟨lo0, hi0⟩, ⟨lo1, hi1⟩, ⟨lo2, hi2⟩, ⟨lo3, hi3⟩⟩ h (fun _ _ _ => rfl))) (fun n => no (by omega)))) (fun n => no (by omega)))) (fun n => no (by omega)))) (fun n => no (by omega)))
  · have gm' := gM_o fr gm
    obtain ⟨mr, ml, mp, mb, mlg, mim, mtp, mz, mcw⟩ := gm'.2
    exact b_295 (s290 (fun c0 => ⟨fun v => absurd v (by decide), fun _ => (s_254 (fun c1 => ⟨fun v => absurd v (by decide), fun _ => (s291 (fun c2 => ⟨fun v => absurd v (by decide), fun _ => (s_254 (fun c3 => ⟨fun v => absurd v (by decide), fun _ => t222 (by decide) (by decide) h00 ⟨fun _ => s_295_64 mr wr (by omega) (by omega) (by omega) (ok ⟨c0, c1, c2, c3⟩ _ (fun _ _ _ => rfl)), fun v => absurd v (by decide)⟩⟩) (fun n => ⟨fun _ => f222 (by decide) (by decide) h00 ⟨fun v => absurd rfl v, fun _ => no (by omega)⟩, fun v => absurd rfl v⟩))⟩) (fun n => ⟨fun _ => f222 (by decide) (by decide) h00 ⟨fun v => absurd rfl v, fun _ => no (by omega)⟩, fun v => absurd rfl v⟩))⟩) (fun n => ⟨fun _ => f222 (by decide) (by decide) h00 ⟨fun v => absurd rfl v, fun _ => no (by omega)⟩, fun v => absurd rfl v⟩))⟩) (fun n => ⟨fun _ => f222 (by decide) (by decide) h00 ⟨fun v => absurd rfl v, fun _ => no (by omega)⟩, fun v => absurd rfl v⟩))
theorem o_26 {d c : Nat} {X : Nat → Nat → zH → Prop} {h : zH} {x1 x2 x3 x4 : Int} (g : gI h) : zCl (d + 59) 162 [(2, 1), (0, x1), (0, x2), (0, x3), (0, x4), (2, 156)] c h (fun k c h1 => (∀ j, h1 0 j = h 0 j) ∧ zCl (d + 59) 296 [(2, 113), (0, x1), (0, x2), (0, x3), (0, x4)] c h1 (fun b _ h2 => gP h k b h2) X) X := by
  obtain ⟨t, t', l, l', p, p', b, b', r, f, N, P, s, n, L, I, T, m, gw, gc, gm, gx⟩ := id g
  obtain ⟨⟨wr, wl, wpl⟩, gw2, gw3, gw4, gw5⟩ := gw
  obtain ⟨rf, cr, cl, cp, cb, clg, cim, ctp, czr, cca⟩ := gc
  obtain ⟨⟨e5, e6, e7, e8, e9, e10, e11, e12⟩, rt, rl, rp, rb⟩ := rf
  have ht : zIsR t := by unfold zIsR; omega
  have hl : zIsL l := by unfold zIsL; omega
  have hp : zIsP p := by unfold zIsP; omega
  have hb : zIsB b := by unfold zIsB; omega
  have wd := wr_d wr
  have wq := wr_p wr
  have wn := wr_n wr
  have wb := wr_b wr
  have wc := wr_c wr
  clear rt rl rp rb
  have q1 := mLs_r r x1 x3
  refine comb2 (c := c) (c0 := 0 ≤ x1 ∧ x1 < r 0 3) (c1 := (0 ≤ x2 ∧ x2 ≤ 7) ∧ (0 ≤ x3 ∧ x3 ≤ 18) ∧ (0 ≤ x4 ∧ x4 ≤ 1)) (V := mLst (16 ^ x2.toNat - (16 - mLs r x1 x3) ^ x2.toNat) (16 ^ x2.toNat) x4) 0 1 (fun R X => zCl (d + 58) 163 [(2, 1), (0, x1), (0, x2), (0, x3), (0, x4)] c h R X) (fun c H R => zCl (d + 59) 296 [(2, 113), (0, x1), (0, x2), (0, x3), (0, x4)] c H R X) (fun R => zCl (d + 59) 162 [(2, 1), (0, x1), (0, x2), (0, x3), (0, x4), (2, 156)] c h R X) g (by decide) (fun R' z => b_162 z) (fun R' X' ok no0 no1 => ?_) (fun c H R' fr ok no0 no1 => ?_)
  · refine b_163 ht ⟨e5, ?_⟩
    rw [cr_n cr]
    refine s_117 (fun lo hi => (s_61 (fun lo0 hi0 => (s_61 (fun lo1 hi1 => (s_61 (fun lo2 hi2 => s_164 (by decide) (by omega) ⟨e5, s_165 ht cr wr ⟨lo, hi⟩ (by omega) ?_⟩) (fun n => no1 ⟨lo, hi⟩ (by omega)))) (fun n => no1 ⟨lo, hi⟩ (by omega)))) (fun n => no1 ⟨lo, hi⟩ (by omega)))) (fun n => no0 n)
    have q2 := pow_r (b := 16 - mLs r x1 x3) (k := x2.toNat) (by omega) (by omega) (by omega)
    rw [w32_e (by omega) (by omega)]
    refine s_164 (by omega) (by omega) ?_
    rw [w64_e (by omega) (by omega)]
    exact s_166 (by omega) (by omega) (ok ⟨lo, hi⟩ ⟨⟨lo0, hi0⟩, ⟨lo1, hi1⟩, ⟨lo2, hi2⟩⟩ h (fun _ _ _ => rfl))
  · have gm' := gM_o fr gm
    obtain ⟨mr, ml, mp, mb, mlg, mim, mtp, mz, mcw⟩ := gm'.2
    have eD := mr_n mr
    refine b_296 (s_297 h00 (by decide) (by omega) (fun lo hi => ⟨fun v => absurd v (by decide), fun _ => (s_254 (fun c0 => ⟨fun v => absurd v (by decide), fun _ => (s_254 (fun c1 => ⟨fun v => absurd v (by decide), fun _ => (s_254 (fun c2 => ⟨fun v => absurd v (by decide), fun _ => b_296_50 (t222 (by decide) (by decide) h00 ⟨fun _ => s_298 (by decide) (by omega) (s_299 mr wr (by omega) (by omega) (by omega) (s_298 (by decide) (by omega) ?_)), fun v => absurd v (by decide)⟩)⟩) (fun n => ⟨fun _ => b_296_49 (b_296_50 (f222 (by decide) (by decide) h00 ⟨fun v => absurd rfl v, fun _ => b_296_58 (no1 (by omega) (by omega))⟩)), fun v => absurd rfl v⟩))⟩) (fun n => ⟨fun _ => b_296_49 (b_296_50 (f222 (by decide) (by decide) h00 ⟨fun v => absurd rfl v, fun _ => b_296_58 (no1 (by omega) (by omega))⟩)), fun v => absurd rfl v⟩))⟩) (fun n => ⟨fun _ => b_296_49 (b_296_50 (f222 (by decide) (by decide) h00 ⟨fun v => absurd rfl v, fun _ => b_296_58 (no1 (by omega) (by omega))⟩)), fun v => absurd rfl v⟩))⟩) (fun n => ⟨fun _ => b_296_58 (no0 (by rw [← eD]; exact n)), fun v => absurd rfl v⟩))
    have q2 := pow_r (b := 16 - mLs r x1 x3) (k := x2.toNat) (by omega) (by omega) (by omega)
    rw [w64_e (by omega) (by omega)]
    exact s_301 (by omega) (by omega) (ok (by omega) ⟨c0, c1, c2⟩ _ (fun _ _ _ => rfl))
theorem o_27 {d c : Nat} {X : Nat → Nat → zH → Prop} {h : zH} {x1 x2 : Int} (g : gI h) : zCl (d + 59) 168 [(2, 1), (0, x1), (0, x2), (2, 156)] c h (fun k c h1 => (∀ j, h1 0 j = h 0 j) ∧ zCl (d + 59) 302 [(2, 113), (0, x1), (0, x2)] c h1 (fun b _ h2 => gP h k b h2) X) X := by
  obtain ⟨t, t', l, l', p, p', b, b', r, f, N, P, s, n, L, I, T, m, gw, gc, gm, gx⟩ := id g
  obtain ⟨⟨wr, wl, wpl⟩, gw2, gw3, gw4, gw5⟩ := gw
  obtain ⟨rf, cr, cl, cp, cb, clg, cim, ctp, czr, cca⟩ := gc
  obtain ⟨⟨e5, e6, e7, e8, e9, e10, e11, e12⟩, rt, rl, rp, rb⟩ := rf
  have ht : zIsR t := by unfold zIsR; omega
  have hl : zIsL l := by unfold zIsL; omega
  have hp : zIsP p := by unfold zIsP; omega
  have hb : zIsB b := by unfold zIsB; omega
  have wd := wr_d wr
  have wq := wr_p wr
  have wn := wr_n wr
  have wb := wr_b wr
  have wc := wr_c wr
  clear rt rl rp rb
  have q1 := mLs_r r x1 x2
  refine comb2 (c := c) (c0 := 0 ≤ x1 ∧ x1 < r 0 3) (c1 := 0 ≤ x2 ∧ x2 ≤ 18) (V := mHf (16 - mLs r x1 x2) 7) 0 1 (fun R X => zCl (d + 58) 169 [(2, 1), (0, x1), (0, x2)] c h R X) (fun c H R => zCl (d + 59) 302 [(2, 113), (0, x1), (0, x2)] c H R X) (fun R => zCl (d + 59) 168 [(2, 1), (0, x1), (0, x2), (2, 156)] c h R X) g (by decide) (fun R' z => b_168 z) (fun R' X' ok no0 no1 => ?_) (fun c H R' fr ok no0 no1 => ?_)
  · refine b_169 ht ⟨e5, ?_⟩
    rw [cr_n cr]
    refine s_117 (fun lo hi => s_61 (fun lo1 hi1 => ⟨e5, s_165 ht cr wr ⟨lo, hi⟩ ⟨lo1, hi1⟩ ?_⟩) (fun n => no1 ⟨lo, hi⟩ n)) (fun n => no0 n)
    rw [w32_e (by omega) (by omega)]
    exact s_169_36 ht (by omega) 7 (by decide) (ok ⟨lo, hi⟩ ⟨lo1, hi1⟩ h (fun _ _ _ => rfl))
  · have gm' := gM_o fr gm
    obtain ⟨mr, ml, mp, mb, mlg, mim, mtp, mz, mcw⟩ := gm'.2
    have eD := mr_n mr
    exact b_302 (s_297 h00 (by decide) (by omega) (fun lo hi => ⟨fun v => absurd v (by decide), fun _ => may1 (by decide) (by decide) h00 (fun hc => ⟨fun _ => s_302_34 mr wr (by omega) hc 7 (by decide) (ok (by omega) hc _ (fun _ _ _ => rfl)), fun v => absurd v (by decide)⟩) (fun n => ⟨fun v => absurd rfl v, fun _ => no1 (by omega) n⟩)⟩) (fun n => ⟨fun _ => no0 (by rw [← eD]; exact n), fun v => absurd rfl v⟩))
theorem o_28 {d c : Nat} {X : Nat → Nat → zH → Prop} {h : zH} {x1 : Int} (g : gI h) : zCl (d + 59) 170 [(2, 1), (0, x1), (2, 156)] c h (fun k c h1 => (∀ j, h1 0 j = h 0 j) ∧ zCl (d + 59) 303 [(2, 113), (0, x1)] c h1 (fun b _ h2 => gP h k b h2) X) X := by
  obtain ⟨t, t', l, l', p, p', b, b', r, f, N, P, s, n, L, I, T, m, gw, gc, gm, gx⟩ := id g
  obtain ⟨⟨wr, wl, wpl⟩, gw2, gw3, gw4, gw5⟩ := gw
  obtain ⟨rf, cr, cl, cp, cb, clg, cim, ctp, czr, cca⟩ := gc
  obtain ⟨⟨e5, e6, e7, e8, e9, e10, e11, e12⟩, rt, rl, rp, rb⟩ := rf
  have ht : zIsR t := by unfold zIsR; omega
  have hl : zIsL l := by unfold zIsL; omega
  have hp : zIsP p := by unfold zIsP; omega
  have hb : zIsB b := by unfold zIsB; omega
  have wd := wr_d wr
  have wq := wr_p wr
  have wn := wr_n wr
  have wb := wr_b wr
  have wc := wr_c wr
  clear rt rl rp rb
  refine comb1 (c := c) (cond := 0 ≤ x1 ∧ x1 ≤ 18) (V := mEas r x1 (r 0 3).toNat) 1 (fun R X => zCl (d + 58) 171 [(2, 1), (0, x1)] c h R X) (fun c H R => zCl (d + 59) 303 [(2, 113), (0, x1)] c H R X) (fun R => zCl (d + 59) 170 [(2, 1), (0, x1), (2, 156)] c h R X) g (by decide) (fun R' z => b_170 z) (fun R' X' ok no => ?_) (fun c H R' fr ok no => ?_)
  · exact b_171 ht (s_61 (fun lo hi => s_171_15 ht e5 cr wr ⟨lo, hi⟩ (ok ⟨lo, hi⟩ h (fun _ _ _ => rfl))) (fun n => no n))
  · have gm' := gM_o fr gm
    obtain ⟨mr, ml, mp, mb, mlg, mim, mtp, mz, mcw⟩ := gm'.2
    exact b_303 (may1 (by decide) (by decide) h00 (fun hc => ⟨fun _ => s_303_27 mr wr hc (ok hc _ (fun _ _ _ => rfl)), fun v => absurd v (by decide)⟩) (fun n => ⟨fun v => absurd rfl v, fun _ => no n⟩))
theorem o_29 {d c : Nat} {X : Nat → Nat → zH → Prop} {h : zH} {x1 x2 x3 x4 : Int} (g : gI h) : zCl (d + 59) 172 [(2, 1), (0, x1), (0, x2), (0, x3), (0, x4), (2, 156)] c h (fun k c h1 => (∀ j, h1 0 j = h 0 j) ∧ zCl (d + 59) 304 [(2, 113), (0, x1), (0, x2), (0, x3), (0, x4)] c h1 (fun b _ h2 => gP h k b h2) X) X := by
  obtain ⟨t, t', l, l', p, p', b, b', r, f, N, P, s, n, L, I, T, m, gw, gc, gm, gx⟩ := id g
  obtain ⟨⟨wr, wl, wpl⟩, gw2, gw3, gw4, gw5⟩ := gw
  obtain ⟨rf, cr, cl, cp, cb, clg, cim, ctp, czr, cca⟩ := gc
  obtain ⟨⟨e5, e6, e7, e8, e9, e10, e11, e12⟩, rt, rl, rp, rb⟩ := rf
  have ht : zIsR t := by unfold zIsR; omega
  have hl : zIsL l := by unfold zIsL; omega
  have hp : zIsP p := by unfold zIsP; omega
  have hb : zIsB b := by unfold zIsB; omega
  have wd := wr_d wr
  have wq := wr_p wr
  have wn := wr_n wr
  have wb := wr_b wr
  have wc := wr_c wr
  clear rt rl rp rb
  refine comb1 (c := c) (cond := (0 ≤ x1 ∧ x1 ≤ 8) ∧ (0 ≤ x2 ∧ x2 ≤ 240) ∧ (0 ≤ x3 ∧ x3 ≤ 240) ∧ (0 ≤ x4 ∧ x4 ≤ 1)) (V := mLst (mWA (r 0 6) x1 x2 x3 x1.toNat) (16 ^ x1.toNat) x4) 1 (fun R X => zCl (d + 58) 173 [(2, 1), (0, x1), (0, x2), (0, x3), (0, x4)] c h R X) (fun c H R => zCl (d + 59) 304 [(2, 113), (0, x1), (0, x2), (0, x3), (0, x4)] c H R X) (fun R => zCl (d + 59) 172 [(2, 1), (0, x1), (0, x2), (0, x3), (0, x4), (2, 156)] c h R X) g (by decide) (fun R' z => b_172 z) (fun R' X' ok no => ?_) (fun c H R' fr ok no => ?_)
  · refine b_173 (s_61 (fun lo0 hi0 => (s_61 (fun lo1 hi1 => (s_61 (fun lo2 hi2 => (s_61 (fun lo3 hi3 => s_174 ht e5 cr wr (by omega) (by omega) (by omega) (s_164 (by decide) (by omega) ?_)) (fun n => no (by omega)))) (fun n => no (by omega)))) (fun n => no (by omega)))) (fun n => no (by omega)))
    have q1 := mWA_r (q := r 0 6) (w := x1) (m := x2) (h := x3) (wr_stops wr) (by omega) (by omega) (by omega) x1.toNat (Nat.le_refl _)
    have q2 := pow_r (b := 16) (k := x1.toNat) (by decide) (by decide) (by omega)
    exact s_166 (by omega) (by omega) (ok ⟨⟨lo0, hi0⟩, ⟨lo1, hi1⟩, ⟨lo2, hi2⟩, ⟨lo3, hi3⟩⟩ h (fun _ _ _ => rfl))
  · have gm' := gM_o fr gm
    obtain ⟨mr, ml, mp, mb, mlg, mim, mtp, mz, mcw⟩ := gm'.2
    refine b_304 (s_254 (fun c0 => ⟨fun v => absurd v (by decide), fun _ => (s291 (fun c1 => ⟨fun v => absurd v (by decide), fun _ => (s291 (fun c2 => ⟨fun v => absurd v (by decide), fun _ => (s_254 (fun c3 => ⟨fun v => absurd v (by decide), fun _ => t222 (by decide) (by decide) h00 ⟨fun _ => s_305 mr wr (by omega) (by omega) (by omega) (s_298 (by decide) (by omega) ?_), fun v => absurd v (by decide)⟩⟩) (fun n => ⟨fun _ => f222 (by decide) (by decide) h00 ⟨fun v => absurd rfl v, fun _ => no (by omega)⟩, fun v => absurd rfl v⟩))⟩) (fun n => ⟨fun _ => f222 (by decide) (by decide) h00 ⟨fun v => absurd rfl v, fun _ => no (by omega)⟩, fun v => absurd rfl v⟩))⟩) (fun n => ⟨fun _ => f222 (by decide) (by decide) h00 ⟨fun v => absurd rfl v, fun _ => no (by omega)⟩, fun v => absurd rfl v⟩))⟩) (fun n => ⟨fun _ => f222 (by decide) (by decide) h00 ⟨fun v => absurd rfl v, fun _ => no (by omega)⟩, fun v => absurd rfl v⟩))
    have q1 := mWA_r (q := r 0 6) (w := x1) (m := x2) (h := x3) (wr_stops wr) (by omega) (by omega) (by omega) x1.toNat (Nat.le_refl _)
    have q2 := pow_r (b := 16) (k := x1.toNat) (by decide) (by decide) (by omega)
    exact s_301 (by omega) (by omega) (ok ⟨c0, c1, c2, c3⟩ _ (fun _ _ _ => rfl))
theorem o_30 {d c : Nat} {X : Nat → Nat → zH → Prop} {h : zH} {x1 x2 : Int} (g : gI h) : zCl (d + 59) 175 [(2, 1), (0, x1), (0, x2), (2, 156)] c h (fun k c h1 => (∀ j, h1 0 j = h 0 j) ∧ zCl (d + 59) 306 [(2, 113), (0, x1), (0, x2)] c h1 (fun b _ h2 => gP h k b h2) X) X := by
  obtain ⟨t, t', l, l', p, p', b, b', r, f, N, P, s, n, L, I, T, m, gw, gc, gm, gx⟩ := id g
  obtain ⟨⟨wr, wl, wpl⟩, gw2, gw3, gw4, gw5⟩ := gw
  obtain ⟨rf, cr, cl, cp, cb, clg, cim, ctp, czr, cca⟩ := gc
  obtain ⟨⟨e5, e6, e7, e8, e9, e10, e11, e12⟩, rt, rl, rp, rb⟩ := rf
  have ht : zIsR t := by unfold zIsR; omega
  have hl : zIsL l := by unfold zIsL; omega
  have hp : zIsP p := by unfold zIsP; omega
  have hb : zIsB b := by unfold zIsB; omega
  have wd := wr_d wr
  have wq := wr_p wr
  have wn := wr_n wr
  have wb := wr_b wr
  have wc := wr_c wr
  clear rt rl rp rb
  refine comb1 (c := c) (cond := (0 ≤ x1 ∧ x1 ≤ 240) ∧ (0 ≤ x2 ∧ x2 ≤ 240)) (V := mAw (r 0 6) x1 x2 8) 1 (fun R X => zCl (d + 58) 176 [(2, 1), (0, x1), (0, x2)] c h R X) (fun c H R => zCl (d + 59) 306 [(2, 113), (0, x1), (0, x2)] c H R X) (fun R => zCl (d + 59) 175 [(2, 1), (0, x1), (0, x2), (2, 156)] c h R X) g (by decide) (fun R' z => b_175 z) (fun R' X' ok no => ?_) (fun c H R' fr ok no => ?_)
  · exact b_176 (s_61 (fun lo0 hi0 => (s_61 (fun lo1 hi1 => s_176_28 ht e5 cr wr (by omega) (by omega) (ok ⟨⟨lo0, hi0⟩, ⟨lo1, hi1⟩⟩ h (fun _ _ _ => rfl))) (fun n => no (by omega)))) (fun n => no (by omega)))
  · have gm' := gM_o fr gm
    obtain ⟨mr, ml, mp, mb, mlg, mim, mtp, mz, mcw⟩ := gm'.2
    exact b_306 (s291 (fun c0 => ⟨fun v => absurd v (by decide), fun _ => (s291 (fun c1 => ⟨fun v => absurd v (by decide), fun _ => t222 (by decide) (by decide) h00 ⟨fun _ => s_306_40 mr wr (by omega) (by omega) (ok ⟨c0, c1⟩ _ (fun _ _ _ => rfl)), fun v => absurd v (by decide)⟩⟩) (fun n => ⟨fun _ => f222 (by decide) (by decide) h00 ⟨fun v => absurd rfl v, fun _ => no (by omega)⟩, fun v => absurd rfl v⟩))⟩) (fun n => ⟨fun _ => f222 (by decide) (by decide) h00 ⟨fun v => absurd rfl v, fun _ => no (by omega)⟩, fun v => absurd rfl v⟩))
theorem o_31 {d c : Nat} {X : Nat → Nat → zH → Prop} {h : zH} {x1 x2 : Int} (g : gI h) : zCl (d + 59) 177 [(2, 1), (0, x1), (0, x2), (2, 156)] c h (fun k c h1 => (∀ j, h1 0 j = h 0 j) ∧ zCl (d + 59) 307 [(2, 113), (0, x1), (0, x2)] c h1 (fun b _ h2 => gP h k b h2) X) X := by
  obtain ⟨t, t', l, l', p, p', b, b', r, f, N, P, s, n, L, I, T, m, gw, gc, gm, gx⟩ := id g
  obtain ⟨⟨wr, wl, wpl⟩, gw2, gw3, gw4, gw5⟩ := gw
  obtain ⟨rf, cr, cl, cp, cb, clg, cim, ctp, czr, cca⟩ := gc
  obtain ⟨⟨e5, e6, e7, e8, e9, e10, e11, e12⟩, rt, rl, rp, rb⟩ := rf
  have ht : zIsR t := by unfold zIsR; omega
  have hl : zIsL l := by unfold zIsL; omega
  have hp : zIsP p := by unfold zIsP; omega
  have hb : zIsB b := by unfold zIsB; omega
  have wd := wr_d wr
  have wq := wr_p wr
  have wn := wr_n wr
  have wb := wr_b wr
  have wc := wr_c wr
  clear rt rl rp rb
  refine comb1z (c := c) (cond := (3 ≤ x1 ∧ x1 ≤ 6) ∧ (0 ≤ x2 ∧ x2 ≤ 1)) (V := mCr x1 x2) 1 (fun R X => zCl (d + 58) 178 [(2, 1), (0, x1), (0, x2)] c h R X) (fun c H R => zCl (d + 59) 307 [(2, 113), (0, x1), (0, x2)] c H R X) (fun R => zCl (d + 59) 177 [(2, 1), (0, x1), (0, x2), (2, 156)] c h R X) g (by decide) (fun R' z => b_177 z) (fun R' X' ok no => ?_) (fun c H R' fr ok no => ?_)
  · refine b_178 (s_61 (fun lo0 hi0 => (s_61 (fun lo1 hi1 => ?_) (fun n => no (by omega)))) (fun n => no (by omega)))
    obtain ⟨e, he⟩ := nat_of (show 0 ≤ x1 by omega)
    subst he
    refine s_179 (by omega) (fun h' f' a0 a1 => ?_)
    have k := ok ⟨⟨lo0, hi0⟩, ⟨lo1, hi1⟩⟩ h' (fun o j w => f' o j (fun y => w (by unfold scC; omega)))
    refine ⟨fun n => ?_, fun e => ?_⟩
    · rw [show x2 = 1 by omega] at k; rw [a1]; exact k
    · rw [e] at k; rw [a0]; exact k
  · have gm' := gM_o fr gm
    obtain ⟨mr, ml, mp, mb, mlg, mim, mtp, mz, mcw⟩ := gm'.2
    refine b_307 (s_254 (fun c0 => ⟨fun v => absurd v (by decide), fun _ => (s_254 (fun c1 => ⟨fun v => absurd v (by decide), fun _ => t222 (by decide) (by decide) h00 ⟨fun _ => ?_, fun v => absurd v (by decide)⟩⟩) (fun n => ⟨fun _ => f222 (by decide) (by decide) h00 ⟨fun v => absurd rfl v, fun _ => no (by omega)⟩, fun v => absurd rfl v⟩))⟩) (fun n => ⟨fun _ => f222 (by decide) (by decide) h00 ⟨fun v => absurd rfl v, fun _ => no (by omega)⟩, fun v => absurd rfl v⟩))
    obtain ⟨e, he⟩ := nat_of (show 0 ≤ x1 by omega)
    subst he
    refine s_308f (by omega) (hw_eq ⟨rfl, rfl⟩) (by unfold mCW at mcw ⊢; rw [hw_ne (by omega)]; exact mcw) (fun h' f' a0 a1 w2 => ?_)
    have k := ok ⟨c0, c1⟩ h' (fun o j w w2 w3 => by rw [f' o j (fun y => w (by unfold scM; omega)), hw_ne (by unfold scM at w; omega)]) (fun i a b => by rw [f' _ _ (by omega), hw_ne (by omega)]; exact mz i a b) w2
    refine ⟨fun n => ?_, fun e => ?_⟩
    · rw [show x2 = 1 by omega] at k; rw [a1]; exact k
    · rw [e] at k; rw [a0]; exact k
theorem o_36 {d c : Nat} {X : Nat → Nat → zH → Prop} {h : zH} {x1 x2 : Int} (g : gI h) : zCl (d + 59) 196 [(2, 1), (0, x1), (0, x2), (2, 156)] c h (fun k c h1 => (∀ j, h1 0 j = h 0 j) ∧ zCl (d + 59) 316 [(2, 113), (0, x1), (0, x2)] c h1 (fun b _ h2 => gP h k b h2) X) X := by
  obtain ⟨t, t', l, l', p, p', b, b', r, f, N, P, s, n, L, I, T, m, gw, gc, gm, gx⟩ := id g
  obtain ⟨⟨wr, wl, wpl⟩, gw2, gw3, gw4, gw5⟩ := gw
  obtain ⟨rf, cr, cl, cp, cb, clg, cim, ctp, czr, cca⟩ := gc
  obtain ⟨⟨e5, e6, e7, e8, e9, e10, e11, e12⟩, rt, rl, rp, rb⟩ := rf
  have ht : zIsR t := by unfold zIsR; omega
  have hl : zIsL l := by unfold zIsL; omega
  have hp : zIsP p := by unfold zIsP; omega
  have hb : zIsB b := by unfold zIsB; omega
  have wd := wr_d wr
  have wq := wr_p wr
  have wn := wr_n wr
  have wb := wr_b wr
  have wc := wr_c wr
  clear rt rl rp rb
  refine comb2 (c := c) (c0 := 0 ≤ x1 ∧ x1 < r 0 4) (c1 := 0 ≤ x2 ∧ x2 ≤ 1) (V := mOd r s x1 x2) 0 1 (fun R X => zCl (d + 58) 197 [(2, 1), (0, x1), (0, x2)] c h R X) (fun c H R => zCl (d + 59) 316 [(2, 113), (0, x1), (0, x2)] c H R X) (fun R => zCl (d + 59) 196 [(2, 1), (0, x1), (0, x2), (2, 156)] c h R X) g (by decide) (fun R' z => b_196 z) (fun R' X' ok no0 no1 => ?_) (fun c H R' fr ok no0 no1 => ?_)
  · refine b_197 ht hb ⟨e5, ?_⟩
    rw [cr_c cr]
    exact s_117 (fun lo hi => s_61 (fun lo1 hi1 => s_197_24 ht hb e5 e11 cr wr cb ⟨lo, hi⟩ (ok ⟨lo, hi⟩ ⟨lo1, hi1⟩ h (fun _ _ _ => rfl))) (fun n => no1 ⟨lo, hi⟩ n)) (fun n => no0 n)
  · have gm' := gM_o fr gm
    obtain ⟨mr, ml, mp, mb, mlg, mim, mtp, mz, mcw⟩ := gm'.2
    have eD : H 113 36 = r 0 4 := by
      have := mr_c mr
      rw [hw_ne (by omega)] at this
      exact this
    refine b_316 ?_
    rw [eD, w32_e (by omega) (by omega)]
    exact may1 (by decide) (by decide) h00 (fun hc0 => ⟨fun v => absurd v (by decide), fun _ => may1 (by decide) (by decide) h00 (fun hc => ⟨fun _ => s_316_47 mr wr mb (by omega) (ok (by omega) hc _ (fun _ _ _ => rfl)), fun v => absurd v (by decide)⟩) (fun n => ⟨fun v => absurd rfl v, fun _ => no1 (by omega) n⟩)⟩) (fun n => ⟨fun _ => no0 (by omega), fun v => absurd rfl v⟩)
def vEve (G : zH) (x : Int) : Int := if x = 0 then G 0 0 else if x = 1 then mSum (G 6) 4 else G 0 1
theorem o_39 {d c : Nat} {X : Nat → Nat → zH → Prop} {h : zH} {x1 x2 : Int} (g : gI h) : zCl (d + 59) 198 [(2, 1), (0, x1), (0, x2), (2, 156)] c h (fun k c h1 => (∀ j, h1 0 j = h 0 j) ∧ zCl (d + 59) 321 [(2, 113), (0, x1), (0, x2)] c h1 (fun b _ h2 => gP h k b h2) X) X := by
  obtain ⟨t, t', l, l', p, p', b, b', r, f, N, P, s, n, L, I, T, m, gw, gc, gm, gx⟩ := id g
  obtain ⟨⟨wr, wl, wpl⟩, gw2, gw3, gw4, gw5⟩ := gw
  obtain ⟨rf, cr, cl, cp, cb, clg, cim, ctp, czr, cca⟩ := gc
  obtain ⟨⟨e5, e6, e7, e8, e9, e10, e11, e12⟩, rt, rl, rp, rb⟩ := rf
  have ht : zIsR t := by unfold zIsR; omega
  have hl : zIsL l := by unfold zIsL; omega
  have hp : zIsP p := by unfold zIsP; omega
  have hb : zIsB b := by unfold zIsB; omega
  have wd := wr_d wr
  have wq := wr_p wr
  have wn := wr_n wr
  have wb := wr_b wr
  have wc := wr_c wr
  clear rt rl rp rb
  have wdd : wD r f N P := ⟨wr, wl, wpl⟩
  refine comb1 (c := c) (cond := 0 ≤ x2 ∧ x2 ≤ 2) (V := vEve (mEv r f N P x1) x2) 1 (fun R X => zCl (d + 58) 199 [(2, 1), (0, x1), (0, x2)] c h R X) (fun c H R => zCl (d + 59) 321 [(2, 113), (0, x1), (0, x2)] c H R X) (fun R => zCl (d + 59) 198 [(2, 1), (0, x1), (0, x2), (2, 156)] c h R X) g (by decide) (fun R' z => b_198 z) (fun R' X' ok no => ?_) (fun c H R' fr ok no => ?_)
  · have cd : cD t l p h r f N P := ⟨⟨e5, e7, e9⟩, ⟨ht, hl, hp⟩, cr, cl, cp⟩
    refine b_199 ht hl hp (s_61 (fun lo hi => ⟨e5, e5, e7, e9, s_21e cd wdd (cr_loses cr) (fun h' f' g' => ?_)⟩) (fun n => no n))
    have k := ok ⟨lo, hi⟩ h' (fun o j w => f' o j (fun y => w (by unfold cSc at y; unfold scC; omega)))
    unfold vEve at k
    have gg : gOk (mEv r f N P x1) P.length := mGo_ok (f := f) (N := N) (sp := r 0 7) (xl := -1) (xb := 0) (sd := x1) wr wpl (by decide) P.length (Nat.le_refl _)
    refine ⟨fun e => ?_, fun n0 => ⟨fun e => s_201 (V := mEv r f N P x1 6) (fun k a b => ⟨(g'.2.2.1 k a b).1, ?_⟩) ?_, fun n1 => ?_⟩⟩
    · rw [if_pos e] at k; rw [g'.1]; exact k
    · have len := wpl.1
      have := gg.2.2.2.2.2 k
      omega
    · rw [if_neg n0, if_pos e] at k; exact k
    · rw [if_neg n0, if_neg n1] at k; rw [g'.2.1]; exact k
  · have gm' := gM_o fr gm
    obtain ⟨mr, ml, mp, mb, mlg, mim, mtp, mz, mcw⟩ := gm'.2
    have md : mD (hw H 113 0 0) r f N P := ⟨mr, ml, mp⟩
    have len := wpl.1
    refine b_321 (may1 (by decide) (by decide) h00 (fun hc => ⟨fun _ => s_267e md wdd mz (fun h' f' g' => ?_), fun v => absurd v (by decide)⟩) (fun n => ⟨fun v => absurd rfl v, fun _ => no n⟩))
    have k := ok hc h' (fun o j w => f' o j (fun y => w (by unfold mSc at y; unfold scM; omega)))
    unfold vEve at k
    have gg : gOk (mEv r f N P x1) P.length := mGo_ok (f := f) (N := N) (sp := r 0 7) (xl := -1) (xb := 0) (sd := x1) wr wpl (by decide) P.length (Nat.le_refl _)
    refine ⟨fun n0 => ⟨fun n1 => ?_, fun e => s_322 (n := (r 0 0).toNat) (V := mEv r f N P x1 6) (by omega) ?_ (fun k a b => ⟨(g'.2.2.1 k a b).1, ?_⟩) ?_⟩, fun e => ?_⟩
    · rw [if_neg n0, if_neg n1] at k; rw [g'.1]; exact k
    · rw [f' _ _ (by unfold mSc; omega), mr_p mr]; omega
    · have := gg.2.2.2.2.2 k
      omega
    · rw [if_neg n0, if_pos e, mSum_ext (n := (r 0 0).toNat) (by omega) (fun k a b => mGo_hi wr wpl P.length (Nat.le_refl _) k (by omega) (by omega))] at k
      exact k
    · rw [if_pos e] at k; exact k
theorem o_40 {d c : Nat} {X : Nat → Nat → zH → Prop} {h : zH} {x1 x2 x3 : Int} (g : gI h) : zCl (d + 59) 202 [(2, 1), (0, x1), (0, x2), (0, x3), (2, 156)] c h (fun k c h1 => (∀ j, h1 0 j = h 0 j) ∧ zCl (d + 59) 323 [(2, 113), (0, x1), (0, x2), (0, x3)] c h1 (fun b _ h2 => gP h k b h2) X) X := by
  obtain ⟨t, t', l, l', p, p', b, b', r, f, N, P, s, n, L, I, T, m, gw, gc, gm, gx⟩ := id g
  obtain ⟨⟨wr, wl, wpl⟩, gw2, gw3, gw4, gw5⟩ := gw
  obtain ⟨rf, cr, cl, cp, cb, clg, cim, ctp, czr, cca⟩ := gc
  obtain ⟨⟨e5, e6, e7, e8, e9, e10, e11, e12⟩, rt, rl, rp, rb⟩ := rf
  have ht : zIsR t := by unfold zIsR; omega
  have hl : zIsL l := by unfold zIsL; omega
  have hp : zIsP p := by unfold zIsP; omega
  have hb : zIsB b := by unfold zIsB; omega
  have wd := wr_d wr
  have wq := wr_p wr
  have wn := wr_n wr
  have wb := wr_b wr
  have wc := wr_c wr
  clear rt rl rp rb
  have wdd : wD r f N P := ⟨wr, wl, wpl⟩
  refine comb1 (c := c) (cond := (1 ≤ x2 ∧ x2 ≤ 40) ∧ (0 ≤ x3 ∧ x3 ≤ 3)) (V := mEvs r f N P x1 (x2.toNat - 1) x3) 1 (fun R X => zCl (d + 58) 203 [(2, 1), (0, x1), (0, x2), (0, x3)] c h R X) (fun c H R => zCl (d + 59) 323 [(2, 113), (0, x1), (0, x2), (0, x3)] c H R X) (fun R => zCl (d + 59) 202 [(2, 1), (0, x1), (0, x2), (0, x3), (2, 156)] c h R X) g (by decide) (fun R' z => b_202 z) (fun R' X' ok no => ?_) (fun c H R' fr ok no => ?_)
  · have cd : cD t l p h r f N P := ⟨⟨e5, e7, e9⟩, ⟨ht, hl, hp⟩, cr, cl, cp⟩
    refine b_203 ht hl hp (s_61 (fun lo0 hi0 => (s_61 (fun lo1 hi1 => ?_) (fun n => no (by omega)))) (fun n => no (by omega)))
    obtain ⟨e, he⟩ : ∃ e : Nat, x2 = ((e + 1 : Nat) : Int) := ⟨(x2 - 1).toNat, by omega⟩
    subst he
    have k := ok ⟨⟨lo0, hi0⟩, ⟨lo1, hi1⟩⟩
    rw [show ((e + 1 : Nat) : Int).toNat - 1 = e by omega] at k
    exact s_203_32 (by omega) cd wdd (fun h' f' => k h' (fun o j w => f' o j (fun y => w (by unfold cSc at y; unfold scC; omega))))
  · have gm' := gM_o fr gm
    obtain ⟨mr, ml, mp, mb, mlg, mim, mtp, mz, mcw⟩ := gm'.2
    have md : mD (hw H 113 0 0) r f N P := ⟨mr, ml, mp⟩
    refine b_323 (s_254 (fun c0 => ⟨fun v => absurd v (by decide), fun _ => (s_254 (fun c1 => ⟨fun v => absurd v (by decide), fun _ => b_323_30 (t222 (by decide) (by decide) h00 ⟨fun _ => ?_, fun v => absurd v (by decide)⟩)⟩) (fun n => ⟨fun _ => b_323_29 (b_323_30 (f222 (by decide) (by decide) h00 ⟨fun v => absurd rfl v, fun _ => no (by omega)⟩)), fun v => absurd rfl v⟩))⟩) (fun n => ⟨fun _ => b_323_29 (b_323_30 (f222 (by decide) (by decide) h00 ⟨fun v => absurd rfl v, fun _ => no (by omega)⟩)), fun v => absurd rfl v⟩))
    obtain ⟨e, he⟩ : ∃ e : Nat, x2 = ((e + 1 : Nat) : Int) := ⟨(x2 - 1).toNat, by omega⟩
    subst he
    have k := ok ⟨c0, c1⟩
    rw [show ((e + 1 : Nat) : Int).toNat - 1 = e by omega] at k
    exact s_323_55 (by omega) md wdd mz (fun h' f' => k h' (fun o j w => f' o j (fun y => w (by unfold mSc at y; unfold scM; omega))))
def vSoon (B : sB) (x : Int) : Int := if B.1.1 = 1000000 then -1 else if x = 0 then B.1.1 else B.1.2
def vFirst (B : sB) (x : Int) : Int := if B.1.1 = 1000000 then -1 else 100 * pD B.2 x + pB B.2 x
theorem o_21 {d c : Nat} {X : Nat → Nat → zH → Prop} {h : zH} {x1 : Int} (g : gI h) : zCl (d + 59) 138 [(2, 1), (0, x1), (2, 156)] c h (fun k c h1 => (∀ j, h1 0 j = h 0 j) ∧ zCl (d + 59) 285 [(2, 113), (0, x1)] c h1 (fun b _ h2 => gP h k b h2) X) X := by
  obtain ⟨t, t', l, l', p, p', b, b', r, f, N, P, s, n, L, I, T, m, gw, gc, gm, gx⟩ := id g
  have gw0 := gw
  have gc0 := gc
  obtain ⟨⟨wr, wl, wpl⟩, gw2, gw3, gw4, gw5⟩ := gw
  obtain ⟨rf, cr, cl, cp, cb, clg, cim, ctp, czr, cca⟩ := gc
  obtain ⟨⟨e5, e6, e7, e8, e9, e10, e11, e12⟩, rt, rl, rp, rb⟩ := rf
  have ht : zIsR t := by unfold zIsR; omega
  have hl : zIsL l := by unfold zIsL; omega
  have hp : zIsP p := by unfold zIsP; omega
  have hb : zIsB b := by unfold zIsB; omega
  have wd := wr_d wr
  have wq := wr_p wr
  have wn := wr_n wr
  have wb := wr_b wr
  have wc := wr_c wr
  clear rt rl rp rb
  refine comb2s (c := c) (c0 := 0 ≤ x1 ∧ x1 ≤ 1) (c1 := r 0 1 ≤ 5) (V := vSoon (sFull r f N) x1) 1 2 (fun R X => zCl (d + 58) 139 [(2, 1), (0, x1)] c h R X) (fun c H R => zCl (d + 59) 285 [(2, 113), (0, x1)] c H R X) (fun R => zCl (d + 59) 138 [(2, 1), (0, x1), (2, 156)] c h R X) gw0 gc0 gm gx g (by decide) (fun R' z => b_138 z) (fun R' X' ok no0 no1 => ?_) (fun c H R' fr ok no0 no1 => ?_)
  · refine b_139 ht hl (s_61 (fun lo hi => b_140 ht ⟨e5, fun c5 => ?_, fun g5 => ?_⟩) (fun n => no0 n))
    · rw [cr_d cr] at c5
      refine ⟨e5, e7, s_141 ht hl cr wr cl wl c5 czr.1 czr.2 cca (fun h' f' B => ?_)⟩
      have k := ok ⟨lo, hi⟩ c5 h' (fun o j w w2 => f' o j (fun y => by unfold cSh at y; unfold zIsL at hl; unfold scC at w; unfold scS at w2; omega)) (fun _ => B)
      unfold vSoon at k
      by_cases e : (sFull r f N).1.1 = 1000000
      · rw [if_pos e] at k
        have q := B.1 e
        exact ⟨fun _ => by rw [q.2]; exact k, fun _ => by rw [q.1]; exact k⟩
      · rw [if_neg e] at k
        have q := (B.2.1 e).1
        refine ⟨fun n => ?_, fun e => ?_⟩
        · rw [if_neg n] at k; rw [q.2]; exact k
        · rw [if_pos e] at k; rw [q.1]; exact k
    · rw [cr_d cr] at g5
      exact no1 ⟨lo, hi⟩ (by omega)
  · have gm' := gM_o fr gm
    obtain ⟨mr, ml, mp, mb, mlg, mim, mtp, mz, mcw⟩ := gm'.2
    have eD := mr_d mr
    refine b_285 (may1 (by decide) (by decide) h00 (fun hc => ⟨fun v => absurd v (by decide), fun _ => ⟨fun g5 => f222 (by decide) (by decide) h00 ⟨fun v => absurd rfl v, fun _ => no1 hc (by omega)⟩, fun l5 => t222 (by decide) (by decide) h00 ⟨fun _ => s_286 wr wl mr ml (by omega) (fun h' f' B => ?_), fun v => absurd v (by decide)⟩⟩⟩) (fun n => ⟨fun _ => no0 n, fun v => absurd rfl v⟩))
    have k := ok hc (by omega) h' (fun o j w => f' o j (fun y => w (by unfold mSh at y; unfold scM; omega)))
    unfold vSoon at k
    have q := B.1
    refine ⟨fun n => ?_, fun e => ?_⟩
    · rw [q.1] at n
      rw [if_neg n] at k
      refine ⟨fun n => ?_, fun e => ?_⟩
      · rw [if_neg n] at k; rw [q.2]; exact k
      · rw [if_pos e] at k; rw [q.1]; exact k
    · rw [q.1] at e
      rw [if_pos e] at k; exact k
theorem o_22 {d c : Nat} {X : Nat → Nat → zH → Prop} {h : zH} {x1 : Int} (g : gI h) : zCl (d + 59) 152 [(2, 1), (0, x1), (2, 156)] c h (fun k c h1 => (∀ j, h1 0 j = h 0 j) ∧ zCl (d + 59) 288 [(2, 113), (0, x1)] c h1 (fun b _ h2 => gP h k b h2) X) X := by
  obtain ⟨t, t', l, l', p, p', b, b', r, f, N, P, s, n, L, I, T, m, gw, gc, gm, gx⟩ := id g
  have gw0 := gw
  have gc0 := gc
  obtain ⟨⟨wr, wl, wpl⟩, gw2, gw3, gw4, gw5⟩ := gw
  obtain ⟨rf, cr, cl, cp, cb, clg, cim, ctp, czr, cca⟩ := gc
  obtain ⟨⟨e5, e6, e7, e8, e9, e10, e11, e12⟩, rt, rl, rp, rb⟩ := rf
  have ht : zIsR t := by unfold zIsR; omega
  have hl : zIsL l := by unfold zIsL; omega
  have hp : zIsP p := by unfold zIsP; omega
  have hb : zIsB b := by unfold zIsB; omega
  have wd := wr_d wr
  have wq := wr_p wr
  have wn := wr_n wr
  have wb := wr_b wr
  have wc := wr_c wr
  clear rt rl rp rb
  refine comb2s (c := c) (c0 := 0 ≤ x1 ∧ x1 ≤ r 0 1 - 1) (c1 := r 0 1 ≤ 5) (V := vFirst (sFull r f N) x1) 1 2 (fun R X => zCl (d + 58) 153 [(2, 1), (0, x1)] c h R X) (fun c H R => zCl (d + 59) 288 [(2, 113), (0, x1)] c H R X) (fun R => zCl (d + 59) 152 [(2, 1), (0, x1), (2, 156)] c h R X) gw0 gc0 gm gx g (by decide) (fun R' z => b_152 z) (fun R' X' ok no0 no1 => ?_) (fun c H R' fr ok no0 no1 => ?_)
  · refine b_153 ht hl ⟨e5, ?_⟩
    rw [cr_d cr, w32_e (by omega) (by omega)]
    refine s_61 (fun lo hi => b_140 ht ⟨e5, fun c5 => ?_, fun g5 => ?_⟩) (fun n => no0 n)
    · rw [cr_d cr] at c5
      refine ⟨e5, e7, s_141 ht hl cr wr cl wl c5 czr.1 czr.2 cca (fun h' f' B => b_154 ?_)⟩
      have k := ok ⟨lo, hi⟩ c5 h' (fun o j w w2 => f' o j (fun y => by unfold cSh at y; unfold zIsL at hl; unfold scC at w; unfold scS at w2; omega)) (fun _ => B)
      unfold vFirst at k
      by_cases e : (sFull r f N).1.1 = 1000000
      · rw [if_pos e] at k
        have q := B.1 e
        exact ⟨fun n => absurd q.1 n, fun _ => k⟩
      · rw [if_neg e] at k
        have q := B.2.1 e
        have q2 := (sFull_b e).1
        refine ⟨fun n => ⟨by omega, ?_⟩, fun n => ?_⟩
        · rw [q.2 x1 lo (by omega)]; exact k
        · have := B.2.2
          rw [q.1.1] at n
          omega
    · rw [cr_d cr] at g5
      exact no1 ⟨lo, hi⟩ (by omega)
  · have gm' := gM_o fr gm
    obtain ⟨mr, ml, mp, mb, mlg, mim, mtp, mz, mcw⟩ := gm'.2
    have eD := mr_d mr
    have eD' : H 113 33 = r 0 1 := by
      have := eD
      rw [hw_ne (by omega)] at this
      exact this
    refine b_288 ?_
    rw [eD', w32_e (by omega) (by omega)]
    refine may1 (by decide) (by decide) h00 (fun hc => ⟨fun v => absurd v (by decide), fun _ => ⟨fun g5 => f222 (by decide) (by decide) h00 ⟨fun v => absurd rfl v, fun _ => no1 hc (by omega)⟩, fun l5 => t222 (by decide) (by decide) h00 ⟨fun _ => s_286 wr wl mr ml (by omega) (fun h' f' B => ?_), fun v => absurd v (by decide)⟩⟩⟩) (fun n => ⟨fun _ => no0 n, fun v => absurd rfl v⟩)
    have k := ok hc (by omega) h' (fun o j w => f' o j (fun y => w (by unfold mSh at y; unfold scM; omega)))
    unfold vFirst at k
    have q := B.1
    refine ⟨fun n => ?_, fun e => ?_⟩
    · rw [q.1] at n
      rw [if_neg n] at k
      have q2 := (sFull_b n).2 x1 hc.1 (by omega)
      have q3 := (sNx_e wr).2.1
      have q4 := B.2.1 n x1 hc.1 (by omega)
      rw [w32_e (x := 2 * x1) (by omega) (by omega), w32_e (x := 2 * x1 + 1) (by omega) (by omega), q4.1, q4.2, w32_e (x := 100 * pD (sFull r f N).2 x1) (by omega) (by omega), w32_e (by omega) (by omega)]
      exact ⟨by omega, by omega, k⟩
    · rw [q.1] at e
      rw [if_pos e] at k; exact k
