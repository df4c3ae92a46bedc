/-! each call on both sides: what takes no refusal, and what changes the plan -/
theorem hw_id {h : zH} {a b : Int} : hw h a b (h a b) = h := by
  funext o j
  by_cases q : o = a ∧ j = b
  · obtain ⟨q1, q2⟩ := q
    subst q1
    subst q2
    rw [hw_eq ⟨rfl, rfl⟩]
  · rw [hw_ne (by omega)]
/-- behind two calls that answer alike -/
def gQ (h : zH) (y b : Int) (h2 : zH) : Prop := gI h2 ∧ y = b ∧ ∀ j, h2 0 j = h 0 j
theorem gQ_ok {h h1 h2 : zH} {y b : Int} (g : gI h) (e : y = b) (f1 : ∀ o j, ¬ scC o j → h1 o j = h o j) (f2 : ∀ o j, ¬ scM o j → h2 o j = (hw h1 113 0 0) o j) : gQ h y b h2 := by
  have := gP_ok (V := h1 156 0) g f1 (h2 := h2) (by rw [hw_id]; exact f2)
  exact ⟨this.1, e, this.2.2.2⟩
theorem gQ_okz {h h1 h2 : zH} {y b : Int} (g : gI h) (e : y = b) (f1 : ∀ o j, ¬ scC o j → h1 o j = h o j) (f2 : ∀ o j, ¬ scM o j → o ≠ 148 → ¬ (o = 113 ∧ j = 66) → h2 o j = (hw h1 113 0 0) o j) (z : ∀ i : Int, 0 ≤ i → i < 12 → h2 148 i = 0) (cw : mCW h2) : gQ h y b h2 := by
  have := gP_okz (V := h1 156 0) g f1 (h2 := h2) (by rw [hw_id]; exact f2) z cw
  exact ⟨this.1, e, this.2.2.2⟩
theorem o_13 {d c : Nat} {X : Nat → Nat → zH → Prop} {h : zH} (g : gI h) : zCl (d + 59) 18 [(2, 1)] c h (fun y c h1 => (∀ j, h1 0 j = h 0 j) ∧ zCl (d + 59) 276 [(2, 113)] c h1 (fun b _ h2 => gQ h y b h2) X) X := by
  obtain ⟨t, t', l, l', p, p', b, b', r, f, N, P, s, n, L, I, T, m, gw, gc, gm, gx⟩ := id g
  obtain ⟨⟨wr, wl, wpl⟩, gw2, gw3, gw4, gw5⟩ := id gw
  obtain ⟨rf, cr, cl, cp, cb, clg, cim, ctp, czr, cca⟩ := id gc
  obtain ⟨⟨e5, e6, e7, e8, e9, e10, e11, e12⟩, rt, rl, rp, rb⟩ := rf
  have ht : zIsR t := by unfold zIsR; omega
  have hl : zIsL l := by unfold zIsL; omega
  have hp : zIsP p := by unfold zIsP; omega
  have hb : zIsB b := by unfold zIsB; omega
  have wd := wr_d wr
  have wq := wr_p wr
  have wn := wr_n wr
  have wb := wr_b wr
  have wc := wr_c wr
  have wdd : wD r f N P := ⟨wr, wl, wpl⟩
  have cd : cD t l p h r f N P := ⟨⟨e5, e7, e9⟩, ⟨ht, hl, hp⟩, cr, cl, cp⟩
  refine b_18 (s_19 cd wdd (fun h' f' g' => ⟨fun j => f' _ _ (by unfold cSc; omega), ?_⟩))
  have gm' := gM_o (H := h') (fun o j a b => f' o j (by unfold cSc; omega)) gm
  obtain ⟨mr, ml, mp, mb, mlg, mim, mtp, mz, mcw⟩ := gm'.2
  have md : mD (hw h' 113 0 0) r f N P := ⟨mr, ml, mp⟩
  refine b_276 (s_267d (xl := -1) (xb := 0) md wdd (by decide) (fun i a2 b2 => by have := wpl.2.1 i a2 b2; rw [mz _ (by omega) (by omega)]; split <;> rfl) (fun h2 f2 g2 => ?_))
  exact gQ_ok g g'.1 (fun o j w => f' o j (fun y => w (by unfold cSc at y; unfold scC; omega))) (fun o j w => f2 o j (fun y => w (by unfold mSc at y; unfold scM; omega)))
theorem o_16 {d c : Nat} {X : Nat → Nat → zH → Prop} {h : zH} (g : gI h) : zCl (d + 59) 36 [(2, 1)] c h (fun y c h1 => (∀ j, h1 0 j = h 0 j) ∧ zCl (d + 59) 279 [(2, 113)] c h1 (fun b _ h2 => gQ h y b h2) X) X := by
  obtain ⟨t, t', l, l', p, p', b, b', r, f, N, P, s, n, L, I, T, m, gw, gc, gm, gx⟩ := id g
  obtain ⟨⟨wr, wl, wpl⟩, gw2, gw3, gw4, gw5⟩ := id gw
  obtain ⟨rf, cr, cl, cp, cb, clg, cim, ctp, czr, cca⟩ := id gc
  obtain ⟨⟨e5, e6, e7, e8, e9, e10, e11, e12⟩, rt, rl, rp, rb⟩ := rf
  have ht : zIsR t := by unfold zIsR; omega
  have hl : zIsL l := by unfold zIsL; omega
  have hp : zIsP p := by unfold zIsP; omega
  have hb : zIsB b := by unfold zIsB; omega
  have wd := wr_d wr
  have wq := wr_p wr
  have wn := wr_n wr
  have wb := wr_b wr
  have wc := wr_c wr
  have wdd : wD r f N P := ⟨wr, wl, wpl⟩
  have cd : cD t l p h r f N P := ⟨⟨e5, e7, e9⟩, ⟨ht, hl, hp⟩, cr, cl, cp⟩
  refine s_36 cd wdd (fun h' f' => ⟨fun j => f' _ _ (by unfold cSc; omega), ?_⟩)
  have gm' := gM_o (H := h') (fun o j a b => f' o j (by unfold cSc; omega)) gm
  have md : mD h' r f N P := ⟨gm'.1.1, gm'.1.2.1, gm'.1.2.2.1⟩
  exact s_279 md wdd gm'.1.2.2.2.2.2.2.2.1 (fun h2 f2 => gQ_ok g rfl (fun o j w => f' o j (fun y => w (by unfold cSc at y; unfold scC; omega))) (fun o j w => f2 o j (fun y => w (by unfold mSc at y; unfold scM; omega))))
theorem o_18 {d c : Nat} {X : Nat → Nat → zH → Prop} {h : zH} (g : gI h) : zCl (d + 59) 37 [(2, 1)] c h (fun y c h1 => (∀ j, h1 0 j = h 0 j) ∧ zCl (d + 59) 282 [(2, 113)] c h1 (fun b _ h2 => gQ h y b h2) X) X := by
  obtain ⟨t, t', l, l', p, p', b, b', r, f, N, P, s, n, L, I, T, m, gw, gc, gm, gx⟩ := id g
  obtain ⟨⟨wr, wl, wpl⟩, gw2, gw3, gw4, gw5⟩ := id gw
  obtain ⟨rf, cr, cl, cp, cb, clg, cim, ctp, czr, cca⟩ := id gc
  obtain ⟨⟨e5, e6, e7, e8, e9, e10, e11, e12⟩, rt, rl, rp, rb⟩ := rf
  have ht : zIsR t := by unfold zIsR; omega
  have hl : zIsL l := by unfold zIsL; omega
  have hp : zIsP p := by unfold zIsP; omega
  have hb : zIsB b := by unfold zIsB; omega
  have wd := wr_d wr
  have wq := wr_p wr
  have wn := wr_n wr
  have wb := wr_b wr
  have wc := wr_c wr
  have wdd : wD r f N P := ⟨wr, wl, wpl⟩
  have cd : cD t l p h r f N P := ⟨⟨e5, e7, e9⟩, ⟨ht, hl, hp⟩, cr, cl, cp⟩
  refine s_37 cd wdd (fun h' f' => ⟨fun j => f' _ _ (by unfold cSc; omega), ?_⟩)
  have gm' := gM_o (H := h') (fun o j a b => f' o j (by unfold cSc; omega)) gm
  have md : mD h' r f N P := ⟨gm'.1.1, gm'.1.2.1, gm'.1.2.2.1⟩
  have mcw := gm'.1.2.2.2.2.2.2.2.2
  exact s_282 md wdd gm'.1.2.2.2.2.2.2.2.1 (fun h2 f2 z => gQ_okz g rfl (fun o j w => f' o j (fun y => w (by unfold cSc at y; unfold scC; omega))) (fun o j w w2 w3 => f2 o j (fun y => w (by unfold mSc at y; unfold scM; omega)) w2) z (by unfold mCW at mcw ⊢; rw [f2 _ _ (by unfold mSc; omega) (by omega), hw_ne (by omega)]; exact mcw))
theorem o_37 {d c : Nat} {X : Nat → Nat → zH → Prop} {h : zH} (g : gI h) : zCl (d + 59) 42 [(2, 1)] c h (fun y c h1 => (∀ j, h1 0 j = h 0 j) ∧ zCl (d + 59) 318 [(2, 113)] c h1 (fun b _ h2 => gQ h y b h2) X) X := by
  obtain ⟨t, t', l, l', p, p', b, b', r, f, N, P, s, n, L, I, T, m, gw, gc, gm, gx⟩ := id g
  obtain ⟨⟨wr, wl, wpl⟩, gw2, gw3, gw4, gw5⟩ := id gw
  obtain ⟨rf, cr, cl, cp, cb, clg, cim, ctp, czr, cca⟩ := id gc
  obtain ⟨⟨e5, e6, e7, e8, e9, e10, e11, e12⟩, rt, rl, rp, rb⟩ := rf
  have ht : zIsR t := by unfold zIsR; omega
  have hl : zIsL l := by unfold zIsL; omega
  have hp : zIsP p := by unfold zIsP; omega
  have hb : zIsB b := by unfold zIsB; omega
  have wd := wr_d wr
  have wq := wr_p wr
  have wn := wr_n wr
  have wb := wr_b wr
  have wc := wr_c wr
  have wdd : wD r f N P := ⟨wr, wl, wpl⟩
  have gm' := gM_o (H := h) (fun _ _ _ _ => rfl) gm
  exact s_42 ht hb e5 e11 cr wr cb ⟨fun _ => rfl, s_318 gm'.1.1 wr gm'.1.2.2.2.1 (gQ_ok g rfl (fun _ _ _ => rfl) (fun _ _ _ => rfl))⟩
theorem o_38 {d c : Nat} {X : Nat → Nat → zH → Prop} {h : zH} (g : gI h) : zCl (d + 59) 47 [(2, 1)] c h (fun y c h1 => (∀ j, h1 0 j = h 0 j) ∧ zCl (d + 59) 320 [(2, 113)] c h1 (fun b _ h2 => gQ h y b h2) X) X := by
  obtain ⟨t, t', l, l', p, p', b, b', r, f, N, P, s, n, L, I, T, m, gw, gc, gm, gx⟩ := id g
  obtain ⟨⟨wr, wl, wpl⟩, gw2, gw3, gw4, gw5⟩ := id gw
  obtain ⟨rf, cr, cl, cp, cb, clg, cim, ctp, czr, cca⟩ := id gc
  obtain ⟨⟨e5, e6, e7, e8, e9, e10, e11, e12⟩, rt, rl, rp, rb⟩ := rf
  have ht : zIsR t := by unfold zIsR; omega
  have hl : zIsL l := by unfold zIsL; omega
  have hp : zIsP p := by unfold zIsP; omega
  have hb : zIsB b := by unfold zIsB; omega
  have wd := wr_d wr
  have wq := wr_p wr
  have wn := wr_n wr
  have wb := wr_b wr
  have wc := wr_c wr
  have wdd : wD r f N P := ⟨wr, wl, wpl⟩
  have gm' := gM_o (H := h) (fun _ _ _ _ => rfl) gm
  exact s_47 ht hb e5 e11 cr wr cb ⟨fun _ => rfl, s_320 gm'.1.1 wr gm'.1.2.2.2.1 (gQ_ok g rfl (fun _ _ _ => rfl) (fun _ _ _ => rfl))⟩
theorem o_47 {d c : Nat} {X : Nat → Nat → zH → Prop} {h : zH} {x : Int} (g : gI h) : zCl (d + 59) 56 [(2, 1), (0, x)] c h (fun y c h1 => (∀ j, h1 0 j = h 0 j) ∧ zCl (d + 59) 333 [(2, 113), (0, x)] c h1 (fun b _ h2 => gQ h y b h2) X) X := by
  obtain ⟨t, t', l, l', p, p', b, b', r, f, N, P, s, n, L, I, T, m, gw, gc, gm, gx⟩ := id g
  obtain ⟨⟨wr, wl, wpl⟩, gw2, gw3, gw4, gw5⟩ := id gw
  obtain ⟨rf, cr, cl, cp, cb, clg, cim, ctp, czr, cca⟩ := id gc
  obtain ⟨⟨e5, e6, e7, e8, e9, e10, e11, e12⟩, rt, rl, rp, rb⟩ := rf
  have ht : zIsR t := by unfold zIsR; omega
  have hl : zIsL l := by unfold zIsL; omega
  have hp : zIsP p := by unfold zIsP; omega
  have hb : zIsB b := by unfold zIsB; omega
  have wd := wr_d wr
  have wq := wr_p wr
  have wn := wr_n wr
  have wb := wr_b wr
  have wc := wr_c wr
  have wdd : wD r f N P := ⟨wr, wl, wpl⟩
  obtain ⟨x0, x1, x2, x3⟩ := gx
  have K : ∀ y, (¬ (0 ≤ x ∧ x ≤ 2) → y = -1) → (0 ≤ x ∧ x ≤ 2 → y = h 114 x) → (∀ j, h 0 j = h 0 j) ∧ zCl (d + 59) 333 [(2, 113), (0, x)] c h (fun b _ h2 => gQ h y b h2) X := fun y a b => And.intro (fun _ => rfl) <| b_333 (s_254 (fun q => ⟨fun v => absurd v (by decide), fun _ => ⟨by omega, gQ_ok g (by rw [hw_ne (by omega)]; exact b q) (fun _ _ _ => rfl) (fun _ _ _ => rfl)⟩⟩) (fun q => ⟨fun _ => gQ_ok g (a q) (fun _ _ _ => rfl) (fun _ _ _ => rfl), fun v => absurd rfl v⟩))
  refine b_56 ⟨fun e => K _ (by omega) (fun _ => by rw [e]; exact x1), fun n0 => ⟨fun e => K _ (by omega) (fun _ => by rw [e]; exact x2), fun n1 => ⟨fun e => K _ (by omega) (fun _ => by rw [e]; exact x3), fun n2 => K _ (fun _ => rfl) (by omega)⟩⟩⟩
theorem o_48 {d c : Nat} {X : Nat → Nat → zH → Prop} {h : zH} {x : Int} (g : gI h) : zCl (d + 59) 57 [(2, 1), (0, x)] c h (fun y c h1 => (∀ j, h1 0 j = h 0 j) ∧ zCl (d + 59) 334 [(2, 113), (0, x)] c h1 (fun b _ h2 => gQ h y b h2) X) X := by
  obtain ⟨t, t', l, l', p, p', b, b', r, f, N, P, s, n, L, I, T, m, gw, gc, gm, gx⟩ := id g
  obtain ⟨⟨wr, wl, wpl⟩, gw2, gw3, gw4, gw5⟩ := id gw
  obtain ⟨rf, cr, cl, cp, cb, clg, cim, ctp, czr, cca⟩ := id gc
  obtain ⟨⟨e5, e6, e7, e8, e9, e10, e11, e12⟩, rt, rl, rp, rb⟩ := rf
  have ht : zIsR t := by unfold zIsR; omega
  have hl : zIsL l := by unfold zIsL; omega
  have hp : zIsP p := by unfold zIsP; omega
  have hb : zIsB b := by unfold zIsB; omega
  have wd := wr_d wr
  have wq := wr_p wr
  have wn := wr_n wr
  have wb := wr_b wr
  have wc := wr_c wr
  have wdd : wD r f N P := ⟨wr, wl, wpl⟩
  have gm' := gM_o (H := h) (fun _ _ _ _ => rfl) gm
  obtain ⟨mr, ml, mp, mb, mlg, mim, mtp, mz, mcw⟩ := gm'.1
  refine b_57 hp ⟨fun e => And.intro (fun _ => rfl) <| b_334 ⟨fun n => absurd e n, fun _ => gQ_ok g ?_ (fun _ _ _ => rfl) (fun _ _ _ => rfl)⟩, fun n0 => ⟨fun e => And.intro (fun _ => rfl) <| b_334 ⟨fun _ => ⟨fun n => absurd e n, fun _ => gQ_ok g ?_ (fun _ _ _ => rfl) (fun _ _ _ => rfl)⟩, fun n => absurd n n0⟩, fun n1 => ⟨fun e => ⟨e9, fun _ => rfl, b_334 ⟨fun _ => ⟨fun _ => ⟨fun n => absurd e n, fun _ => gQ_ok g ?_ (fun _ _ _ => rfl) (fun _ _ _ => rfl)⟩, fun n => absurd n n1⟩, fun n => absurd n n0⟩⟩, fun n2 => And.intro (fun _ => rfl) <| b_334 ⟨fun _ => ⟨fun _ => ⟨fun _ => gQ_ok g rfl (fun _ _ _ => rfl) (fun _ _ _ => rfl), fun n => absurd n n2⟩, fun n => absurd n n1⟩, fun n => absurd n n0⟩⟩⟩⟩
  · rw [cim.1, mim.1]
  · rw [ctp.1, mtp.1]
  · rw [clg.1, mlg.1]
theorem gCl_p {h h' : zH} {t t' l l' p p' b b' : Int} {r : zH} {f : Int → Int} {N : Nat} {P : List (Int × Int)} {s : Int → Int} {n : Int} {L : gLg} {I : gIm} {T : Int → Int} {m : Int} {P' : List (Int × Int)} {L' : gLg} (hI : I.length ≤ 3) (fr : ∀ o j, cCel o j → ¬ (p ≤ o ∧ o ≤ p + 5) → h' o j = h o j) (q4 : cPlan p h' P') (q6 : h' p 6 = L'.length ∧ cLogR p h' L') (w : gCl h t t' l l' p p' b b' r f N P s n L I T m) : gCl h' t t' l l' p p' b b' r f N P' s n L' I T m := by
  obtain ⟨w1, w2, w3, w4, w5, w6, w7, w8, w9, w10⟩ := w
  have w1' := w1
  obtain ⟨_, e1, e2, e3, e4⟩ := w1'
  have r1 : 30 ≤ t ∧ t ≤ 50 ∧ 30 ≤ t' ∧ t' ≤ 50 := by clear e2 e3 e4; omega
  have r2 : 70 ≤ l ∧ l ≤ 74 ∧ 70 ≤ l' ∧ l' ≤ 74 := by clear e1 e3 e4; omega
  have r3 : 78 ≤ p ∧ p ≤ 84 ∧ 78 ≤ p' ∧ p' ≤ 84 := by clear e1 e2 e4; omega
  have r4 : 90 ≤ b ∧ b ≤ 92 ∧ 90 ≤ b' ∧ b' ≤ 92 := by clear e1 e2 e3; omega
  unfold cCel at fr
  exact ⟨gRf_fr (fun j a c => fr _ _ (by clear e1 e2 e3 e4; omega) (by clear e1 e2 e3 e4; omega)) w1, cRoad_fr (fun o j a c => fr _ _ (by clear e2 e3 e4; omega) (by clear e2 e3 e4; omega)) w2, cLaw_fr (fun o j a => fr _ _ (by clear e1 e3 e4; omega) (by clear e1 e3 e4; omega)) w3, q4, cBook_fr (fun o j a => fr _ _ (by clear e1 e2 e3; omega) (by clear e1 e2 e3; omega)) w5, q6, ⟨by rw [fr _ _ (by clear e1 e2 e3 e4; omega) (by clear e1 e2 e3 e4; omega)]; exact w7.1, cImR_fr (fun o j a c => fr _ _ (by clear e1 e2 e3 e4; omega) (by clear e1 e2 e3 e4; omega)) w7.2⟩, ⟨by rw [fr _ _ (by clear e1 e2 e3 e4; omega) (by clear e1 e2 e3 e4; omega)]; exact w8.1, fun k a c => by rw [fr _ _ (by clear e1 e2 e3 e4; omega) (by clear e1 e2 e3 e4; omega)]; exact w8.2 k a c⟩, ⟨fun p a c => by rw [fr _ _ (by clear e1 e2 e3 e4; omega) (by clear e1 e2 e3 e4; omega)]; exact w9.1 p a c, by rw [fr _ _ (by clear e1 e2 e3 e4; omega) (by clear e1 e2 e3 e4; omega)]; exact w9.2.1, by rw [fr _ _ (by clear e1 e2 e3 e4; omega) (by clear e1 e2 e3 e4; omega)]; exact w9.2.2⟩, fun e => cBs_fr ⟨fr _ _ (by clear e1 e2 e3 e4; omega) (by clear e1 e2 e3 e4; omega), fr _ _ (by clear e1 e2 e3 e4; omega) (by clear e1 e2 e3 e4; omega)⟩ (fun i => fr _ _ (by clear e1 e2 e3 e4; omega) (by clear e1 e2 e3 e4; omega)) (w10 (by rw [fr _ _ (by clear e1 e2 e3 e4; omega) (by clear e1 e2 e3 e4; omega)] at e; exact e))⟩
theorem gMl_p {h h' : zH} {r : zH} {f : Int → Int} {N : Nat} {P : List (Int × Int)} {s : Int → Int} {n : Int} {L : gLg} {I : gIm} {T : Int → Int} {m : Int} {P' : List (Int × Int)} {L' : gLg} (fr : ∀ o j, mCel o j → ¬ (o = 139 ∨ o = 154 ∨ (o = 113 ∧ (j = 49 ∨ j = 70))) → h' o j = h o j) (q3 : mPlan h' P') (q5 : h' 113 70 = L'.length ∧ mLogR h' 154 0 L') (w : gMl h r f N P s n L I T m) : gMl h' r f N P' s n L' I T m := by
  obtain ⟨w1, w2, w3, w4, w5, w6, w7, w8, w9⟩ := w
  unfold mCel at fr
  exact ⟨mRoad_fr (fun o j a => fr _ _ (by unfold mRo at a; omega) (by unfold mRo at a; omega)) w1, mLaw_fr (fun o j a => fr _ _ (by unfold mLo at a; omega) (by unfold mLo at a; omega)) w2, q3, mBook_fr (fun o j a => fr _ _ (by omega) (by omega)) w4, q5, ⟨by rw [fr _ _ (by omega) (by omega)]; exact w6.1, mImR_f (fun j => fr _ _ (by omega) (by omega)) w6.2⟩, ⟨by rw [fr _ _ (by omega) (by omega)]; exact w7.1, fun k a c => by rw [fr _ _ (by omega) (by omega)]; exact w7.2 k a c⟩, fun i a c => by rw [fr _ _ (by omega) (by omega)]; exact w8 i a c, by unfold mCW at w9 ⊢; rw [fr _ _ (by omega) (by omega)]; exact w9⟩
theorem gX_fr {h h' : zH} (x : gX h) (k : ∀ o j, o = 1 ∧ 15 ≤ j ∨ o = 2 ∧ j = 6 ∨ o = 113 ∧ j = 8 ∨ o = 114 → h' o j = h o j) : gX h' := by
  unfold gX at x ⊢
  rw [k _ _ (by omega), k _ _ (by omega), k _ _ (by omega), k _ _ (by omega), k _ _ (by omega), k _ _ (by omega), k _ _ (by omega), k _ _ (by omega)]
  exact x
/-- what the plan may become, on each side -/
def qC (p : Int) (h : zH) (P : List (Int × Int)) (L : gLg) (h' : zH) : Prop := (∀ o j, ¬ (p ≤ o ∧ o ≤ p + 5) → h' o j = h o j) ∧ cPlan p h' P ∧ (h' p 6 = L.length ∧ cLogR p h' L)
def qM (H : zH) (P : List (Int × Int)) (L : gLg) (h' : zH) : Prop := (∀ o j, ¬ (o = 139 ∨ o = 154 ∨ (o = 113 ∧ (j = 49 ∨ j = 70))) → h' o j = (hw H 113 0 0) o j) ∧ mPlan h' P ∧ (h' 113 70 = L.length ∧ mLogR h' 154 0 L)
theorem gI_pl {h h1 H h2 : zH} {t t' l l' p p' b b' : Int} {r : zH} {f : Int → Int} {N : Nat} {P P' : List (Int × Int)} {s : Int → Int} {n : Int} {L L' : gLg} {I : gIm} {T : Int → Int} {m : Int} (gw : gW r f N P' L' I T m) (gc : gCl h t t' l l' p p' b b' r f N P s n L I T m) (gm : gMl h r f N P s n L I T m) (x : gX h) (q1 : qC p h P' L' h1) (hH : ∀ o j, ¬ (o = 156 ∧ j = 0) → H o j = h1 o j) (q2 : qM H P' L' h2) : gI h2 ∧ ∀ j, h2 0 j = h 0 j := by
  obtain ⟨a1, a2, a3⟩ := q1
  obtain ⟨b1, b2, b3⟩ := q2
  have rp := gc.1.2.2.2.1
  have e0 : ∀ o j, o < 113 → h2 o j = h1 o j := fun o j q => by rw [b1 o j (by omega), hw_ne (by omega), hH o j (by omega)]
  have e : ∀ o j, ¬ (p ≤ o ∧ o ≤ p + 5) → ¬ (o = 139 ∨ o = 154 ∨ (o = 113 ∧ (j = 0 ∨ j = 49 ∨ j = 70))) → ¬ (o = 156 ∧ j = 0) → h2 o j = h o j := fun o j a a' b => by rw [b1 o j (by omega), hw_ne (by omega), hH o j b, a1 o j a]
  refine ⟨⟨t, t', l, l', p, p', b, b', r, f, N, P', s, n, L', I, T, m, gw, gCl_p gw.2.2.1 (fun o j a a' => e o j a' (by unfold cCel at a; omega) (by unfold cCel at a; omega)) (cPlan_fr (fun o j a c => e0 _ _ (by omega)) a2) ⟨by rw [e0 _ _ (by omega)]; exact a3.1, cLogR_fr (fun o j a c _ _ => e0 _ _ (by omega)) a3.2⟩ gc, gMl_p (fun o j a a' => e o j (by unfold mCel at a; omega) (by unfold mCel at a; omega) (by unfold mCel at a; omega)) b2 b3 gm, gX_fr x (fun o j a => e o j (by omega) (by omega) (by omega))⟩, fun j => e _ _ (by omega) (by omega) (by omega)⟩
theorem gP_pl {h h1 h2 : zH} {V : Int} {t t' l l' p p' b b' : Int} {r : zH} {f : Int → Int} {N : Nat} {P P' : List (Int × Int)} {s : Int → Int} {n : Int} {L L' : gLg} {I : gIm} {T : Int → Int} {m : Int} (gw : gW r f N P' L' I T m) (gc : gCl h t t' l l' p p' b b' r f N P s n L I T m) (gm : gMl h r f N P s n L I T m) (x : gX h) (q1 : qC p h P' L' h1) (q2 : qM (hw h1 156 0 V) P' L' h2) : gP h 0 V h2 := by
  have k := gI_pl gw gc gm x q1 (fun o j a => by rw [hw_ne (by omega)]) q2
  have b1 := q2.1
  exact ⟨k.1, by rw [b1 _ _ (by omega), hw_eq ⟨rfl, rfl⟩], fun _ => by rw [b1 _ _ (by omega), hw_ne (by omega), hw_eq ⟨rfl, rfl⟩], k.2⟩
/-- two calls that change the state, refusing for one reason or two -/
theorem combG {h : zH} {c : Nat} {c0 c1 : Prop} {V : Int} {QC : zH → Prop} {QM : zH → zH → Prop} (E0 E1 : Nat) (Zc : gR → gXx → Prop) (Zm : Nat → zH → gR → Prop) (Zh : gR → Prop) (g : gI h) (hE : (E0 = 0 ∨ E0 = 1) ∧ E1 = 1) (F : ∀ h', QC h' → ∀ o j, o = 0 ∨ 113 ≤ o → h' o j = h o j) (G : c0 → c1 → ∀ h1 h2, QC h1 → QM (hw h1 156 0 V) h2 → gP h 0 V h2)
    (B : ∀ R', Zc (fun y c h => R' 0 c (hw h 156 0 y)) (fun E c h => (E = E0 ∧ R' 1 c h) ∨ (E0 = 0 ∧ ¬ (c0 → c1) ∧ E = E1 ∧ R' 2 c h)) → Zh R')
    (C : ∀ R' X', (c0 → c1 → ∀ h', QC h' → R' V c h') → (¬ c0 → X' E0 (c + 1) (hw h 1 (15 + (E0 : Int)) (w32 (h 1 (15 + (E0 : Int)) + 1)))) → (c0 → ¬ c1 → X' E1 (c + 1) (hw h 1 (15 + (E1 : Int)) (w32 (h 1 (15 + (E1 : Int)) + 1)))) → Zc R' X')
    (M : ∀ c H R', (∀ o j, 113 ≤ o → o ≠ 156 → H o j = h o j) → (c0 → c1 → ∀ h', QM H h' → R' V c h') → (¬ c0 → R' 0 c (hw (hw (hw H 113 0 0) 113 0 1) 114 (E0 : Int) (w32 (H 114 (E0 : Int) + 1)))) → (c0 → ¬ c1 → R' 0 c (hw (hw (hw H 113 0 0) 113 0 2) 114 (E1 : Int) (w32 (H 114 (E1 : Int) + 1)))) → Zm c H R') (hc1 : E0 = 0 ∨ c1) :
    Zh (fun k c h1 => (∀ j, h1 0 j = h 0 j) ∧ Zm c h1 (fun b _ h2 => gP h k b h2)) := by
  refine B _ (C _ _ (fun h0 hc h1 f1 => ⟨fun j => by rw [hw_ne (by omega), F h1 f1 0 j (Or.inl rfl)], M _ _ _ (fun o j a b => by rw [hw_ne (by omega), F h1 f1 o j (Or.inr a)]) (fun _ _ h2 f2 => G h0 hc h1 h2 f1 f2) (fun n => absurd h0 n) (fun _ n => absurd hc n)⟩) (fun nc => Or.inl ⟨rfl, fun j => by rw [hw_ne (by omega)], M _ _ _ (fun o j a b => by rw [hw_ne (by omega)]) (fun y _ => absurd y nc) (fun _ => ?_) (fun y => absurd y nc)⟩) (fun y0 nc => Or.inr ⟨hc1.resolve_right nc, fun q => nc (q y0), rfl, fun j => by rw [hw_ne (by omega)], M _ _ _ (fun o j a b => by rw [hw_ne (by omega)]) (fun _ y => absurd y nc) (fun n => absurd y0 n) (fun _ _ => ?_)⟩))
  · have := gP_no (b := 0) g (i := (E0 : Int)) (k := 1) (by omega) (by decide)
    rw [hw_ne (o := 1) (by omega)]
    exact this
  · have := gP_no (b := 0) g (i := (E1 : Int)) (k := 2) (by omega) (by decide)
    rw [hw_ne (o := 1) (by omega)]
    exact this
theorem zOrX {R X : Prop} {p q : Prop} (h : (p ∧ X) ∨ (q ∧ R)) (e : ¬ q) : p ∧ X := h.elim id (fun w => absurd w.1 e)
theorem mOnes1 : ∀ n : Nat, n < 16 → n = 0 ∨ 1 ≤ mOnes n := by decide +kernel
theorem mOnes1' {x : Int} (h0 : 1 ≤ x) (h1 : x ≤ 15) : 1 ≤ mOnes x := by
  obtain ⟨n, e⟩ := nat_of (show 0 ≤ x by omega)
  subst e
  rcases mOnes1 n (by omega) with q | q
  · omega
  · exact q
theorem o_41 {d c : Nat} {X : Nat → Nat → zH → Prop} {h : zH} {x1 x2 : Int} (g : gI h) : zCl (d + 59) 204 [(2, 1), (0, x1), (0, x2), (2, 156)] c h (fun k c h1 => (∀ j, h1 0 j = h 0 j) ∧ zCl (d + 59) 324 [(2, 113), (0, x1), (0, x2)] c h1 (fun b _ h2 => gP h k b h2) X) X := by
  obtain ⟨t, t', l, l', p, p', b, b', r, f, N, P, s, n, L, I, T, m, gw, gc, gm, gx⟩ := id g
  obtain ⟨⟨wr, wl, wpl⟩, gw2, gw3, gw4, gw5⟩ := id gw
  obtain ⟨rf, cr, cl, cp, cb, clg, cim, ctp, czr, cca⟩ := id gc
  obtain ⟨⟨e5, e6, e7, e8, e9, e10, e11, e12⟩, rt, rl, rp, rb⟩ := rf
  have ht : zIsR t := by unfold zIsR; omega
  have hl : zIsL l := by unfold zIsL; omega
  have hp : zIsP p := by unfold zIsP; omega
  have hb : zIsB b := by unfold zIsB; omega
  have wd := wr_d wr
  have wq := wr_p wr
  have wn := wr_n wr
  have wb := wr_b wr
  have wc := wr_c wr
  have wdd : wD r f N P := ⟨wr, wl, wpl⟩
  refine combG (c := c) (c0 := (0 ≤ x1 ∧ x1 < (P.length : Int)) ∧ (0 ≤ x2 ∧ x2 < (P.length : Int))) (c1 := True) (V := (if x1 = x2 then 0 else if L.length = 20 then -1 else 1)) (QC := (fun h' => (x1 = x2 ∨ L.length = 20 → qC p h P L h') ∧ (¬ (x1 = x2 ∨ L.length = 20) → qC p h (pSw P x1 x2) (((0, x1, x2), P) :: L) h'))) (QM := (fun H h' => (x1 = x2 ∨ L.length = 20 → qM H P L h') ∧ (¬ (x1 = x2 ∨ L.length = 20) → qM H (pSw P x1 x2) (((0, x1, x2), P) :: L) h'))) 0 1 (fun R X => zCl (d + 58) 205 [(2, 1), (0, x1), (0, x2)] c h R X) (fun c H R => zCl (d + 59) 324 [(2, 113), (0, x1), (0, x2)] c H R X) (fun R => zCl (d + 59) 204 [(2, 1), (0, x1), (0, x2), (2, 156)] c h R X) g (by decide) (fun h' q o j a => (Decidable.em (x1 = x2 ∨ L.length = 20)).elim (fun dd => (q.1 dd).1 o j (by omega)) (fun dd => (q.2 dd).1 o j (by omega))) (fun h0 hc h1 h2 q1 q2 => ?_) (fun R' z => b_204 (zCl_mono (fun _ _ _ w => w) (fun E c h w => w.elim id (fun w => absurd (fun _ => trivial) w.2.1)) z)) (fun R' X' ok no0 no1 => ?_) (fun c H R' fr ok no0 no1 => ?_) (by first | exact Or.inl rfl | exact Or.inr trivial)
  · by_cases dd : x1 = x2 ∨ L.length = 20
    · exact gP_pl gw gc gm gx (q1.1 dd) (q2.1 dd)
    · have gw' : gW r f N (pSw P x1 x2) (((0, x1, x2), P) :: L) I T m := ⟨⟨wr, wl, wSw wpl h0.1 h0.2⟩, ⟨by rw [List.length_cons]; omega, eSw h0.1 h0.2, wpl, gw2.2⟩, gw3, gw4, gw5⟩
      exact gP_pl gw' gc gm gx (q1.2 dd) (q2.2 dd)
  · refine b_205 hp ⟨e9, ?_⟩
    rw [cp.1]
    refine s_117 (fun lo hi => ⟨e9, ?_⟩) (fun n => no0 (by omega))
    rw [cp.1]
    refine s_117 (fun lo2 hi2 => ⟨fun ne => ⟨e9, s_206 hp cp wpl.1 clg gw2.1 ⟨lo, hi⟩ ⟨lo2, hi2⟩ (fun e20 => ⟨fun _ => ?_, fun v => absurd rfl v⟩) (fun l20 h' f' q4 q6 => ⟨fun v => absurd v (by decide), fun _ => ?_⟩)⟩, fun eq => ?_⟩) (fun n => no0 (by omega))
    · have k := ok ⟨⟨lo, hi⟩, ⟨lo2, hi2⟩⟩ trivial h ⟨fun _ => ⟨fun _ _ _ => rfl, cp, clg⟩, fun dd => absurd (Or.inr e20) dd⟩
      rw [if_neg ne, if_pos e20] at k; exact k
    · have k := ok ⟨⟨lo, hi⟩, ⟨lo2, hi2⟩⟩ trivial h' ⟨fun dd => absurd dd (by omega), fun _ => ⟨f', q4, q6⟩⟩
      rw [if_neg ne, if_neg (by omega)] at k; exact k
    · have k := ok ⟨⟨lo, hi⟩, ⟨lo2, hi2⟩⟩ trivial h ⟨fun _ => ⟨fun _ _ _ => rfl, cp, clg⟩, fun dd => absurd (Or.inl eq) dd⟩
      rw [if_pos eq] at k; exact k
  · have gm' := gM_o fr gm
    obtain ⟨mr, ml, mp, mb, mlg, mim, mtp, mz, mcw⟩ := gm'.2
    have eD := mp.1
    have len := wpl.1
    refine b_324 (s_266 h00 (by decide) (by omega) (fun lo hi => ⟨fun v => absurd v (by decide), fun _ => s_266 h00 (by decide) (by omega) (fun lo2 hi2 => ⟨fun _ => ⟨fun ne => s_325 mp wpl.1 gw2.2 mlg gw2.1 (fun e20 => ⟨fun v => absurd rfl v, fun _ => ?_⟩) (fun l20 h' f' q => ⟨fun _ => ?_, fun v => absurd v (by decide)⟩), fun eq => ?_⟩, fun v => absurd v (by decide)⟩) (fun n => ⟨fun v => absurd rfl v, fun _ => no0 (by omega)⟩)⟩) (fun n => ⟨fun _ => no0 (by omega), fun v => absurd rfl v⟩))
    · have k := ok (by omega) trivial _ ⟨fun _ => ⟨fun _ _ _ => rfl, mp, mlg⟩, fun dd => absurd (Or.inr e20) dd⟩
      rw [if_neg ne, if_pos e20] at k; exact k
    · refine s_324_43 (mPlan_fr (fun o j a => f' o j (by omega)) mp) wpl.1 (by omega) (by omega) ne (fun h2 f2 q3 => ?_)
      have k := ok (by omega) trivial h2 ⟨fun dd => absurd dd (by omega), fun _ => ⟨fun o j w => by rw [f2 o j (by omega), f' o j (by omega)], q3, by rw [f2 _ _ (by omega)]; exact (q (0, x1, x2)).1, mLogR_f (fun j => f2 _ _ (by omega)) (q (0, x1, x2)).2⟩⟩
      rw [if_neg ne, if_neg (by omega)] at k; exact k
    · have k := ok (by omega) trivial _ ⟨fun _ => ⟨fun _ _ _ => rfl, mp, mlg⟩, fun dd => absurd (Or.inl eq) dd⟩
      rw [if_pos eq] at k; exact k
theorem o_42 {d c : Nat} {X : Nat → Nat → zH → Prop} {h : zH} {x1 x2 : Int} (g : gI h) : zCl (d + 59) 208 [(2, 1), (0, x1), (0, x2), (2, 156)] c h (fun k c h1 => (∀ j, h1 0 j = h 0 j) ∧ zCl (d + 59) 327 [(2, 113), (0, x1), (0, x2)] c h1 (fun b _ h2 => gP h k b h2) X) X := by
  obtain ⟨t, t', l, l', p, p', b, b', r, f, N, P, s, n, L, I, T, m, gw, gc, gm, gx⟩ := id g
  obtain ⟨⟨wr, wl, wpl⟩, gw2, gw3, gw4, gw5⟩ := id gw
  obtain ⟨rf, cr, cl, cp, cb, clg, cim, ctp, czr, cca⟩ := id gc
  obtain ⟨⟨e5, e6, e7, e8, e9, e10, e11, e12⟩, rt, rl, rp, rb⟩ := rf
  have ht : zIsR t := by unfold zIsR; omega
  have hl : zIsL l := by unfold zIsL; omega
  have hp : zIsP p := by unfold zIsP; omega
  have hb : zIsB b := by unfold zIsB; omega
  have wd := wr_d wr
  have wq := wr_p wr
  have wn := wr_n wr
  have wb := wr_b wr
  have wc := wr_c wr
  have wdd : wD r f N P := ⟨wr, wl, wpl⟩
  obtain ⟨n1, n2, n3⟩ := sNx_e wr
  have n0 : (1 : Int) ≤ 2 ^ (r 0 0).toNat := by omega
  refine combG (c := c) (c0 := 0 ≤ x1 ∧ x1 < (P.length : Int)) (c1 := (1 ≤ x2 ∧ x2 ≤ (sNx r : Int)) ∧ (1 ≤ mOnes x2 ∧ mOnes x2 ≤ 2)) (V := (if L.length = 20 then -1 else 1)) (QC := (fun h' => (L.length = 20 → qC p h P L h') ∧ (¬ (L.length = 20) → qC p h (pHd P x1 x2) (((1, x1, pB P x1), P) :: L) h'))) (QM := (fun H h' => (L.length = 20 → qM H P L h') ∧ (¬ (L.length = 20) → qM H (pHd P x1 x2) (((1, x1, pB P x1), P) :: L) h'))) 0 1 (fun R X => zCl (d + 58) 209 [(2, 1), (0, x1), (0, x2)] c h R X) (fun c H R => zCl (d + 59) 327 [(2, 113), (0, x1), (0, x2)] c H R X) (fun R => zCl (d + 59) 208 [(2, 1), (0, x1), (0, x2), (2, 156)] c h R X) g (by decide) (fun h' q o j a => (Decidable.em (L.length = 20)).elim (fun dd => (q.1 dd).1 o j (by omega)) (fun dd => (q.2 dd).1 o j (by omega))) (fun h0 hc h1 h2 q1 q2 => ?_) (fun R' z => b_208 (zCl_mono (fun _ _ _ w => w) (fun E c h w => w.elim Or.inl (fun w => Or.inr w.2.2)) z)) (fun R' X' ok no0 no1 => ?_) (fun c H R' fr ok no0 no1 => ?_) (by first | exact Or.inl rfl | exact Or.inr trivial)
  · by_cases dd : L.length = 20
    · exact gP_pl gw gc gm gx (q1.1 dd) (q2.1 dd)
    · have gw' : gW r f N (pHd P x1 x2) (((1, x1, pB P x1), P) :: L) I T m := ⟨⟨wr, wl, wHd wpl (by omega)⟩, ⟨by rw [List.length_cons]; omega, eHd h0, wpl, gw2.2⟩, gw3, gw4, gw5⟩
      exact gP_pl gw' gc gm gx (q1.2 dd) (q2.2 dd)
  · refine b_209 ht hp ⟨e9, ?_⟩
    rw [cp.1]
    refine s_117 (fun lo hi => ⟨e5, ?_⟩) (fun n => no0 n)
    rw [cr_p cr, n3, w32_e (by omega) (by omega)]
    refine s_61 (fun lo1 hi1 => s_24 (by omega) (by omega) (s_61 (fun lo2 hi2 => ⟨e9, s_210 hp cp wpl.1 clg gw2.1 ⟨lo, hi⟩ (fun e20 => ⟨fun _ => ?_, fun v => absurd rfl v⟩) (fun l20 h' f' q4 q6 => ⟨fun v => absurd v (by decide), fun _ => ?_⟩)⟩) (fun n => no1 ⟨lo, hi⟩ (by omega)))) (fun n => no1 ⟨lo, hi⟩ (by omega))
    · have k := ok ⟨lo, hi⟩ (by omega) h ⟨fun _ => ⟨fun _ _ _ => rfl, cp, clg⟩, fun dd => absurd (e20) dd⟩
      rw [if_pos e20] at k; exact k
    · have k := ok ⟨lo, hi⟩ (by omega) h' ⟨fun dd => absurd dd (by omega), fun _ => ⟨f', q4, q6⟩⟩
      rw [if_neg (by omega)] at k; exact k
  · have gm' := gM_o fr gm
    obtain ⟨mr, ml, mp, mb, mlg, mim, mtp, mz, mcw⟩ := gm'.2
    have eD := mp.1
    have len := wpl.1
    refine b_327 (s_266 h00 (by decide) (by omega) (fun lo hi => ⟨fun v => absurd v (by decide), fun _ => ⟨fun q => f222 (by decide) (by decide) h00 ⟨fun v => absurd rfl v, fun _ => no1 (by omega) (by omega)⟩, fun q => ?_⟩⟩) (fun n => ⟨fun _ => no0 (by omega), fun v => absurd rfl v⟩))
    rw [mr_p mr, n3]
    refine ⟨fun q => f222 (by decide) (by decide) h00 ⟨fun v => absurd rfl v, fun _ => no1 (by omega) (by omega)⟩, fun q => s_269 ⟨fun q2 => f222 (by decide) (by decide) h00 ⟨fun v => absurd rfl v, fun _ => no1 (by omega) (by omega)⟩, fun q2 => t222 (by decide) (by decide) h00 ⟨fun _ => s_325 mp wpl.1 gw2.2 mlg gw2.1 (fun e20 => ⟨fun v => absurd rfl v, fun _ => ?_⟩) (fun l20 h' f' q1 => ⟨fun _ => ?_, fun v => absurd v (by decide)⟩), fun v => absurd v (by decide)⟩⟩⟩
    · have k := ok (by omega) (by have := mOnes1' (x := x2) (by omega) (by omega); omega) _ ⟨fun _ => ⟨fun _ _ _ => rfl, mp, mlg⟩, fun dd => absurd (e20) dd⟩
      rw [if_pos e20] at k; exact k
    · rw [w32_e (x := 2 * x1) (by omega) (by omega), w32_e (x := 2 * x1 + 1) (by omega) (by omega)]
      have k := ok (by omega) (by have := mOnes1' (x := x2) (by omega) (by omega); omega) (hw h' 139 (2 * x1 + 1) x2) ⟨fun dd => absurd dd (by omega), fun _ => ⟨fun o j w => by rw [hw_ne (by omega), f' o j (by omega)], ⟨?_, fun k a b => ?_⟩, by rw [hw_ne (by omega)]; exact (q1 (1, x1, pB P x1)).1, mLogR_f (fun j => by rw [hw_ne (by omega)]) (q1 (1, x1, pB P x1)).2⟩⟩
      · rw [if_neg (by omega)] at k
        exact ⟨by omega, k⟩
      · rw [hw_ne (by omega), f' _ _ (by omega), eD]
        unfold pHd
        rw [mkP_len]
      · unfold pHd at b ⊢
        rw [mkP_len] at b
        rw [mkP_D a b, mkP_B a b, hw_ne (by omega), f' _ _ (by omega)]
        refine ⟨(mp.2 k a b).1, ?_⟩
        by_cases e : k = x1
        · rw [if_pos e, e, hw_eq ⟨rfl, rfl⟩]
        · rw [if_neg e, hw_ne (by omega), f' _ _ (by omega)]
          exact (mp.2 k a b).2
theorem o_43 {d c : Nat} {X : Nat → Nat → zH → Prop} {h : zH} {x1 : Int} (g : gI h) : zCl (d + 59) 211 [(2, 1), (0, x1), (2, 156)] c h (fun k c h1 => (∀ j, h1 0 j = h 0 j) ∧ zCl (d + 59) 328 [(2, 113), (0, x1)] c h1 (fun b _ h2 => gP h k b h2) X) X := by
  obtain ⟨t, t', l, l', p, p', b, b', r, f, N, P, s, n, L, I, T, m, gw, gc, gm, gx⟩ := id g
  obtain ⟨⟨wr, wl, wpl⟩, gw2, gw3, gw4, gw5⟩ := id gw
  obtain ⟨rf, cr, cl, cp, cb, clg, cim, ctp, czr, cca⟩ := id gc
  obtain ⟨⟨e5, e6, e7, e8, e9, e10, e11, e12⟩, rt, rl, rp, rb⟩ := rf
  have ht : zIsR t := by unfold zIsR; omega
  have hl : zIsL l := by unfold zIsL; omega
  have hp : zIsP p := by unfold zIsP; omega
  have hb : zIsB b := by unfold zIsB; omega
  have wd := wr_d wr
  have wq := wr_p wr
  have wn := wr_n wr
  have wb := wr_b wr
  have wc := wr_c wr
  have wdd : wD r f N P := ⟨wr, wl, wpl⟩
  obtain ⟨n1, n2, n3⟩ := sNx_e wr
  have n0 : (1 : Int) ≤ 2 ^ (r 0 0).toNat := by omega
  refine combG (c := c) (c0 := 0 ≤ x1 ∧ x1 < (P.length : Int)) (c1 := True) (V := (if L.length = 20 then -1 else ((pDr P x1).length : Int))) (QC := (fun h' => (L.length = 20 → qC p h P L h') ∧ (¬ (L.length = 20) → qC p h (pDr P x1) (((2, x1, pD P x1 * 16 + pB P x1), P) :: L) h'))) (QM := (fun H h' => (L.length = 20 → qM H P L h') ∧ (¬ (L.length = 20) → qM H (pDr P x1) (((2, x1, pD P x1 * 16 + pB P x1), P) :: L) h'))) 0 1 (fun R X => zCl (d + 58) 212 [(2, 1), (0, x1)] c h R X) (fun c H R => zCl (d + 59) 328 [(2, 113), (0, x1)] c H R X) (fun R => zCl (d + 59) 211 [(2, 1), (0, x1), (2, 156)] c h R X) g (by decide) (fun h' q o j a => (Decidable.em (L.length = 20)).elim (fun dd => (q.1 dd).1 o j (by omega)) (fun dd => (q.2 dd).1 o j (by omega))) (fun h0 hc h1 h2 q1 q2 => ?_) (fun R' z => b_211 (zCl_mono (fun _ _ _ w => w) (fun E c h w => w.elim id (fun w => absurd (fun _ => trivial) w.2.1)) z)) (fun R' X' ok no0 no1 => ?_) (fun c H R' fr ok no0 no1 => ?_) (by first | exact Or.inl rfl | exact Or.inr trivial)
  · by_cases dd : L.length = 20
    · exact gP_pl gw gc gm gx (q1.1 dd) (q2.1 dd)
    · have gw' : gW r f N (pDr P x1) (((2, x1, pD P x1 * 16 + pB P x1), P) :: L) I T m := ⟨⟨wr, wl, wDr wpl h0⟩, ⟨by rw [List.length_cons]; omega, eDr h0 (by have := wpl.2.1 x1 h0.1 h0.2; omega) (by have := wpl.2.1 x1 h0.1 h0.2; omega), wpl, gw2.2⟩, gw3, gw4, gw5⟩
      exact gP_pl gw' gc gm gx (q1.2 dd) (q2.2 dd)
  · refine b_212 hp ⟨e9, ?_⟩
    rw [cp.1]
    refine s_117 (fun lo hi => ⟨e9, ?_⟩) (fun n => no0 n)
    have pq := wpl.2.1 x1 lo hi
    refine s_213 hp cp wpl.1 (by omega) (by omega) clg gw2.1 ⟨lo, hi⟩ (fun e20 => ⟨fun _ => ?_, fun v => absurd rfl v⟩) (fun l20 h' f' q4 q6 => ⟨fun v => absurd v (by decide), fun _ => ⟨by rw [f' _ _ (by omega), e9], ?_⟩⟩)
    · have k := ok ⟨lo, hi⟩ trivial h ⟨fun _ => ⟨fun _ _ _ => rfl, cp, clg⟩, fun dd => absurd (e20) dd⟩
      rw [if_pos e20] at k; exact k
    · have k := ok ⟨lo, hi⟩ trivial h' ⟨fun dd => absurd dd (by omega), fun _ => ⟨f', q4, q6⟩⟩
      rw [if_neg (by omega)] at k
      rw [q4.1]; exact k
  · have gm' := gM_o fr gm
    obtain ⟨mr, ml, mp, mb, mlg, mim, mtp, mz, mcw⟩ := gm'.2
    have eD := mp.1
    have len := wpl.1
    refine b_328 (s_266 h00 (by decide) (by omega) (fun lo hi => ⟨fun _ => s_325 mp wpl.1 gw2.2 mlg gw2.1 (fun e20 => ⟨fun v => absurd rfl v, fun _ => ?_⟩) (fun l20 h' f' q => ⟨fun _ => ?_, fun v => absurd v (by decide)⟩), fun v => absurd v (by decide)⟩) (fun n => ⟨fun v => absurd rfl v, fun _ => no0 (by omega)⟩))
    · have k := ok (by omega) trivial _ ⟨fun _ => ⟨fun _ _ _ => rfl, mp, mlg⟩, fun dd => absurd (e20) dd⟩
      rw [if_pos e20] at k; exact k
    · rw [f' _ _ (by omega), eD, w32_e (x := 2 * x1) (by omega) (by omega), w32_e (x := (P.length : Int) - 1) (by omega) (by omega)]
      refine s_328_39 (P := P) (hw_eq ⟨rfl, rfl⟩) (fun k a b => ?_) wpl.1 (by omega) (fun h2 f2 q3 => ?_)
      · rw [hw_ne (by omega), hw_ne (by omega), f' _ _ (by omega), f' _ _ (by omega)]
        exact mp.2 k a b
      · have k := ok (by omega) trivial h2 ⟨fun dd => absurd dd (by omega), fun _ => ⟨fun o j w => by rw [f2 o j (by omega), hw_ne (by omega), f' o j (by omega)], q3, by rw [f2 _ _ (by omega), hw_ne (by omega)]; exact (q (2, x1, pD P x1 * 16 + pB P x1)).1, mLogR_f (fun j => by rw [f2 _ _ (by omega), hw_ne (by omega)]) (q (2, x1, pD P x1 * 16 + pB P x1)).2⟩⟩
        rw [if_neg (by omega)] at k; exact k
