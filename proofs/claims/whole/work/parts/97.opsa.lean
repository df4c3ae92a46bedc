/-! each call on both sides: what only asks -/
theorem may1 {d c : Nat} {R : Int → Nat → zH → Prop} {X : Nat → Nat → zH → Prop} {H : zH} {a lo hi co ki : Int} (hk : 0 ≤ ki ∧ ki < 3) (hc : co ≠ 0) (h0 : H 113 0 = 0) (OK : lo ≤ a ∧ a ≤ hi → R 1 c H) (NO : ¬ (lo ≤ a ∧ a ≤ hi) → R 0 c (hw (hw H 113 0 co) 114 ki (w32 (H 114 ki + 1)))) : zCl d 254 [(0, a), (0, lo), (0, hi)] c H (fun y c h => zCl d 222 [(2, 113), (0, y), (0, co), (0, ki)] c h R X) X :=
  s_254 (fun y => s_222 h0 hk hc (fun _ => OK y) (fun e => absurd e (by decide))) (fun n => s_222 h0 hk hc (fun e => absurd rfl e) (fun _ => NO n))
theorem h00 {H : zH} : (hw H 113 0 0) 113 0 = 0 := hw_eq ⟨rfl, rfl⟩
def vTold (r : zH) (P : List (Int × Int)) (n a : Int) : Int := if a = 0 then r 0 0 else if a = 1 then r 0 1 else if a = 2 then r 0 2 else if a = 3 then r 0 3 else if a = 4 then r 0 4 else if a = 5 then P.length else if a = 6 then n else if a = 7 then r 0 5 else r 0 6
theorem o_6 {d c : Nat} {X : Nat → Nat → zH → Prop} {h : zH} {a : Int} (g : gI h) : zCl (d + 59) 111 [(2, 1), (0, a), (2, 156)] c h (fun k c h1 => (∀ j, h1 0 j = h 0 j) ∧ zCl (d + 59) 253 [(2, 113), (0, a)] c h1 (fun b _ h2 => gP h k b h2) X) X := by
  obtain ⟨t, t', l, l', p, p', b, b', r, f, N, P, s, n, L, I, T, m, gw, gc, gm, gx⟩ := id g
  obtain ⟨⟨wr, wl, wpl⟩, gw2, gw3, gw4, gw5⟩ := gw
  obtain ⟨rf, cr, cl, cp, cb, clg, cim, ctp, czr, cca⟩ := gc
  obtain ⟨⟨e5, e6, e7, e8, e9, e10, e11, e12⟩, rt, rl, rp, rb⟩ := rf
  have ht : zIsR t := by unfold zIsR; omega
  have hl : zIsL l := by unfold zIsL; omega
  have hp : zIsP p := by unfold zIsP; omega
  have hb : zIsB b := by unfold zIsB; omega
  have wd := wr_d wr
  have wq := wr_p wr
  have wn := wr_n wr
  have wb := wr_b wr
  have wc := wr_c wr
  refine comb1 (c := c) (cond := 0 ≤ a ∧ a ≤ 8) (V := vTold r P n a) 1 (fun R X => zCl (d + 58) 112 [(2, 1), (0, a)] c h R X) (fun c H R => zCl (d + 59) 253 [(2, 113), (0, a)] c H R X) (fun R => zCl (d + 59) 111 [(2, 1), (0, a), (2, 156)] c h R X) g (by decide) (fun R' z => b_111 z) (fun R' X' ok no => ?_) (fun c H R' fr ok no => ?_)
  · refine b_112 ht hp hb (s_61 (fun lo hi => ?_) (fun n => no (fun w => n w)))
    have k := ok ⟨lo, hi⟩ h (fun _ _ _ => rfl)
    unfold vTold at k
    refine ⟨fun e => ⟨e5, ?_⟩, fun n0 => ⟨fun e => ⟨e5, ?_⟩, fun n1 => ⟨fun e => ⟨e5, ?_⟩, fun n2 => ⟨fun e => ⟨e5, ?_⟩, fun n3 => ⟨fun e => ⟨e5, ?_⟩, fun n4 => ⟨fun e => ⟨e9, ?_⟩, fun n5 => ⟨fun e => ⟨e11, ?_⟩, fun n6 => ⟨fun e => ⟨e5, ?_⟩, fun n7 => ⟨e5, ?_⟩⟩⟩⟩⟩⟩⟩⟩⟩
    · rw [if_pos (by omega)] at k
      rw [cr_p cr]
      exact k
    · rw [if_neg (by omega), if_pos (by omega)] at k
      rw [cr_d cr]
      exact k
    · rw [if_neg (by omega), if_neg (by omega), if_pos (by omega)] at k
      rw [cr_b cr]
      exact k
    · rw [if_neg (by omega), if_neg (by omega), if_neg (by omega), if_pos (by omega)] at k
      rw [cr_n cr]
      exact k
    · rw [if_neg (by omega), if_neg (by omega), if_neg (by omega), if_neg (by omega), if_pos (by omega)] at k
      rw [cr_c cr]
      exact k
    · rw [if_neg (by omega), if_neg (by omega), if_neg (by omega), if_neg (by omega), if_neg (by omega), if_pos (by omega)] at k
      rw [cp.1]
      exact k
    · rw [if_neg (by omega), if_neg (by omega), if_neg (by omega), if_neg (by omega), if_neg (by omega), if_neg (by omega), if_pos (by omega)] at k
      rw [cb.1]
      exact k
    · rw [if_neg (by omega), if_neg (by omega), if_neg (by omega), if_neg (by omega), if_neg (by omega), if_neg (by omega), if_neg (by omega), if_pos (by omega)] at k
      rw [cr_load cr]
      exact k
    · rw [if_neg (by omega), if_neg (by omega), if_neg (by omega), if_neg (by omega), if_neg (by omega), if_neg (by omega), if_neg (by omega), if_neg (by omega)] at k
      rw [cr_stops cr]
      exact k
  · have gm' := gM_o fr gm
    refine b_253 (may1 (by decide) (by decide) h00 (fun hc => ⟨fun _ => ?_, fun v => absurd v (by decide)⟩) (fun n => ⟨fun v => absurd rfl v, fun _ => no n⟩))
    have k := ok hc _ (fun _ _ _ => rfl)
    unfold vTold at k
    have mr := gm'.2.1
    refine ⟨fun g5 => ⟨fun n5 => ⟨fun n6 => ⟨fun n7 => ?_, fun e => ?_⟩, fun e => ?_⟩, fun e => ?_⟩, fun l5 => ⟨fun n0 => ⟨fun n1 => ⟨fun n2 => ⟨fun n3 => ?_, fun e => ?_⟩, fun e => ?_⟩, fun e => ?_⟩, fun e => ?_⟩⟩
    · rw [if_neg (by omega), if_neg (by omega), if_neg (by omega), if_neg (by omega), if_neg (by omega), if_neg (by omega), if_neg (by omega), if_neg (by omega)] at k
      rw [(mr_told mr).2.1]
      exact k
    · rw [if_neg (by omega), if_neg (by omega), if_neg (by omega), if_neg (by omega), if_neg (by omega), if_neg (by omega), if_neg (by omega), if_pos (by omega)] at k
      rw [(mr_told mr).1]
      exact k
    · rw [if_neg (by omega), if_neg (by omega), if_neg (by omega), if_neg (by omega), if_neg (by omega), if_neg (by omega), if_pos (by omega)] at k
      rw [gm'.2.2.2.2.1.1]
      exact k
    · rw [if_neg (by omega), if_neg (by omega), if_neg (by omega), if_neg (by omega), if_neg (by omega), if_pos (by omega)] at k
      rw [gm'.2.2.2.1.1]
      exact k
    · rw [if_neg (by omega), if_neg (by omega), if_neg (by omega), if_neg (by omega), if_pos (by omega)] at k
      rw [mr_c mr]
      exact k
    · rw [if_neg (by omega), if_neg (by omega), if_neg (by omega), if_pos (by omega)] at k
      rw [mr_n mr]
      exact k
    · rw [if_neg (by omega), if_neg (by omega), if_pos (by omega)] at k
      rw [mr_b mr]
      exact k
    · rw [if_neg (by omega), if_pos (by omega)] at k
      rw [mr_d mr]
      exact k
    · rw [if_pos (by omega)] at k
      rw [mr_p mr]
      exact k
def vDeed (r : zH) (a w : Int) : Int := r (2 + w) a
theorem o_7 {d c : Nat} {X : Nat → Nat → zH → Prop} {h : zH} {a w : Int} (g : gI h) : zCl (d + 59) 115 [(2, 1), (0, a), (0, w), (2, 156)] c h (fun k c h1 => (∀ j, h1 0 j = h 0 j) ∧ zCl (d + 59) 255 [(2, 113), (0, a), (0, w)] c h1 (fun b _ h2 => gP h k b h2) X) X := by
  obtain ⟨t, t', l, l', p, p', b, b', r, f, N, P, s, n, L, I, T, m, gw, gc, gm, gx⟩ := id g
  obtain ⟨⟨wr, wl, wpl⟩, gw2, gw3, gw4, gw5⟩ := gw
  obtain ⟨rf, cr, cl, cp, cb, clg, cim, ctp, czr, cca⟩ := gc
  obtain ⟨⟨e5, e6, e7, e8, e9, e10, e11, e12⟩, rt, rl, rp, rb⟩ := rf
  have ht : zIsR t := by unfold zIsR; omega
  have hl : zIsL l := by unfold zIsL; omega
  have hp : zIsP p := by unfold zIsP; omega
  have hb : zIsB b := by unfold zIsB; omega
  have wd := wr_d wr
  have wq := wr_p wr
  have wn := wr_n wr
  have wb := wr_b wr
  have wc := wr_c wr
  refine comb2 (c := c) (c0 := 0 ≤ a ∧ a < r 0 1) (c1 := 0 ≤ w ∧ w ≤ 4) (V := vDeed r a w) 0 1 (fun R X => zCl (d + 58) 116 [(2, 1), (0, a), (0, w)] c h R X) (fun c H R => zCl (d + 59) 255 [(2, 113), (0, a), (0, w)] c H R X) (fun R => zCl (d + 59) 115 [(2, 1), (0, a), (0, w), (2, 156)] c h R X) g (by decide) (fun R' z => b_115 z) (fun R' X' ok no0 no1 => ?_) (fun c H R' fr ok no0 no1 => ?_)
  · refine b_116 ht ⟨e5, ?_⟩
    rw [cr_d cr]
    refine s_117 (fun lo hi => s_61 (fun lo2 hi2 => ⟨e5, by omega, by omega, ?_⟩) (fun n => no1 ⟨lo, hi⟩ n)) (fun n => no0 n)
    have k := ok ⟨lo, hi⟩ ⟨lo2, hi2⟩ h (fun _ _ _ => rfl)
    unfold vDeed at k
    have q := cr_deed cr a lo hi
    have w5 : w = 0 ∨ w = 1 ∨ w = 2 ∨ w = 3 ∨ w = 4 := by omega
    rcases w5 with e | e | e | e | e <;> subst e
    · rw [Int.add_zero, q.1]
      exact k
    · rw [show t + 8 + 1 = t + 9 by omega, q.2.1]
      exact k
    · rw [show t + 8 + 2 = t + 10 by omega, q.2.2.1]
      exact k
    · rw [show t + 8 + 3 = t + 11 by omega, q.2.2.2.1]
      exact k
    · rw [show t + 8 + 4 = t + 12 by omega, q.2.2.2.2.1]
      exact k
  · have gm' := gM_o fr gm
    have mr := gm'.2.1
    have eD := mr_d mr
    refine b_255 (s_256 h00 (by decide) (by omega) (fun lo hi => ⟨fun v => absurd v (by decide), fun _ => may1 (by decide) (by decide) h00 (fun hc => ⟨fun _ => ?_, fun v => absurd v (by decide)⟩) (fun n => ⟨fun v => absurd rfl v, fun _ => no1 (by omega) n⟩)⟩) (fun n => ⟨fun _ => no0 (by rw [← eD]; exact n), fun v => absurd rfl v⟩))
    have k := ok (by omega) hc _ (fun _ _ _ => rfl)
    unfold vDeed at k
    have q := mr_deed mr a lo (by omega)
    rw [w32_e (x := 5 * a) (by omega) (by omega), w32_e (x := 5 * a + w) (by omega) (by omega)]
    refine ⟨by omega, ?_⟩
    have w5 : w = 0 ∨ w = 1 ∨ w = 2 ∨ w = 3 ∨ w = 4 := by omega
    rcases w5 with e | e | e | e | e <;> subst e
    · rw [Int.add_zero, q.1]
      exact k
    · rw [q.2.1]
      exact k
    · rw [q.2.2.1]
      exact k
    · rw [q.2.2.2.1]
      exact k
    · rw [q.2.2.2.2]
      exact k
theorem o_8 {d c : Nat} {X : Nat → Nat → zH → Prop} {h : zH} {a : Int} (g : gI h) : zCl (d + 59) 118 [(2, 1), (0, a), (2, 156)] c h (fun k c h1 => (∀ j, h1 0 j = h 0 j) ∧ zCl (d + 59) 257 [(2, 113), (0, a)] c h1 (fun b _ h2 => gP h k b h2) X) X := by
  obtain ⟨t, t', l, l', p, p', b, b', r, f, N, P, s, n, L, I, T, m, gw, gc, gm, gx⟩ := id g
  obtain ⟨⟨wr, wl, wpl⟩, gw2, gw3, gw4, gw5⟩ := gw
  obtain ⟨rf, cr, cl, cp, cb, clg, cim, ctp, czr, cca⟩ := gc
  obtain ⟨⟨e5, e6, e7, e8, e9, e10, e11, e12⟩, rt, rl, rp, rb⟩ := rf
  have ht : zIsR t := by unfold zIsR; omega
  have hl : zIsL l := by unfold zIsL; omega
  have hp : zIsP p := by unfold zIsP; omega
  have hb : zIsB b := by unfold zIsB; omega
  have wd := wr_d wr
  have wq := wr_p wr
  have wn := wr_n wr
  have wb := wr_b wr
  have wc := wr_c wr
  refine comb1 (c := c) (cond := 0 ≤ a ∧ a < r 0 0) (V := r 1 a) 0 (fun R X => zCl (d + 58) 119 [(2, 1), (0, a)] c h R X) (fun c H R => zCl (d + 59) 257 [(2, 113), (0, a)] c H R X) (fun R => zCl (d + 59) 118 [(2, 1), (0, a), (2, 156)] c h R X) g (by decide) (fun R' z => b_118 z) (fun R' X' ok no => ?_) (fun c H R' fr ok no => ?_)
  · refine b_119 ht ⟨e5, ?_⟩
    rw [cr_p cr]
    refine s_117 (fun lo hi => ⟨e5, by omega, ?_⟩) (fun n => no n)
    rw [cr_strong cr a lo hi]
    exact ok ⟨lo, hi⟩ h (fun _ _ _ => rfl)
  · have gm' := gM_o fr gm
    have mr := gm'.2.1
    have eD := mr_p mr
    refine b_257 (s_258 h00 (by decide) (by omega) (fun lo hi => ⟨fun _ => ⟨by omega, ?_⟩, fun v => absurd v (by decide)⟩) (fun n => ⟨fun v => absurd rfl v, fun _ => no (by rw [← eD]; exact n)⟩))
    rw [mr_strong mr a lo (by omega)]
    exact ok (by omega) _ (fun _ _ _ => rfl)
theorem o_9 {d c : Nat} {X : Nat → Nat → zH → Prop} {h : zH} {a : Int} (g : gI h) : zCl (d + 59) 120 [(2, 1), (0, a), (2, 156)] c h (fun k c h1 => (∀ j, h1 0 j = h 0 j) ∧ zCl (d + 59) 259 [(2, 113), (0, a)] c h1 (fun b _ h2 => gP h k b h2) X) X := by
  obtain ⟨t, t', l, l', p, p', b, b', r, f, N, P, s, n, L, I, T, m, gw, gc, gm, gx⟩ := id g
  obtain ⟨⟨wr, wl, wpl⟩, gw2, gw3, gw4, gw5⟩ := gw
  obtain ⟨rf, cr, cl, cp, cb, clg, cim, ctp, czr, cca⟩ := gc
  obtain ⟨⟨e5, e6, e7, e8, e9, e10, e11, e12⟩, rt, rl, rp, rb⟩ := rf
  have ht : zIsR t := by unfold zIsR; omega
  have hl : zIsL l := by unfold zIsL; omega
  have hp : zIsP p := by unfold zIsP; omega
  have hb : zIsB b := by unfold zIsB; omega
  have wd := wr_d wr
  have wq := wr_p wr
  have wn := wr_n wr
  have wb := wr_b wr
  have wc := wr_c wr
  refine comb1 (c := c) (cond := 0 ≤ a ∧ a ≤ 59) (V := r 7 a) 1 (fun R X => zCl (d + 58) 121 [(2, 1), (0, a)] c h R X) (fun c H R => zCl (d + 59) 259 [(2, 113), (0, a)] c H R X) (fun R => zCl (d + 59) 120 [(2, 1), (0, a), (2, 156)] c h R X) g (by decide) (fun R' z => b_120 z) (fun R' X' ok no => ?_) (fun c H R' fr ok no => ?_)
  · refine b_121 ht (s_61 (fun lo hi => ⟨e5, by omega, ?_⟩) (fun n => no n))
    rw [cr_bears cr a lo (by omega)]
    exact ok ⟨lo, hi⟩ h (fun _ _ _ => rfl)
  · have gm' := gM_o fr gm
    have mr := gm'.2.1
    refine b_259 (may1 (by decide) (by decide) h00 (fun hc => ⟨fun _ => ⟨by omega, ?_⟩, fun v => absurd v (by decide)⟩) (fun n => ⟨fun v => absurd rfl v, fun _ => no n⟩))
    rw [mr_bears mr a hc.1 (by omega)]
    exact ok hc _ (fun _ _ _ => rfl)
theorem o_33 {d c : Nat} {X : Nat → Nat → zH → Prop} {h : zH} {a : Int} (g : gI h) : zCl (d + 59) 185 [(2, 1), (0, a), (2, 156)] c h (fun k c h1 => (∀ j, h1 0 j = h 0 j) ∧ zCl (d + 59) 311 [(2, 113), (0, a)] c h1 (fun b _ h2 => gP h k b h2) X) X := by
  obtain ⟨t, t', l, l', p, p', b, b', r, f, N, P, s, n, L, I, T, m, gw, gc, gm, gx⟩ := id g
  obtain ⟨⟨wr, wl, wpl⟩, gw2, gw3, gw4, gw5⟩ := gw
  obtain ⟨rf, cr, cl, cp, cb, clg, cim, ctp, czr, cca⟩ := gc
  obtain ⟨⟨e5, e6, e7, e8, e9, e10, e11, e12⟩, rt, rl, rp, rb⟩ := rf
  have ht : zIsR t := by unfold zIsR; omega
  have hl : zIsL l := by unfold zIsL; omega
  have hp : zIsP p := by unfold zIsP; omega
  have hb : zIsB b := by unfold zIsB; omega
  have wd := wr_d wr
  have wq := wr_p wr
  have wn := wr_n wr
  have wb := wr_b wr
  have wc := wr_c wr
  refine comb1 (c := c) (cond := 0 ≤ a ∧ a ≤ 12) (V := w32 (Int.tdiv (w32 (16 - a)) 4)) 1 (fun R X => zCl (d + 58) 186 [(2, 1), (0, a)] c h R X) (fun c H R => zCl (d + 59) 311 [(2, 113), (0, a)] c H R X) (fun R => zCl (d + 59) 185 [(2, 1), (0, a), (2, 156)] c h R X) g (by decide) (fun R' z => b_185 z) (fun R' X' ok no => ?_) (fun c H R' fr ok no => ?_)
  · refine b_186 (s_61 (fun lo hi => ok ⟨lo, hi⟩ h (fun _ _ _ => rfl)) (fun n => no n))
  · have gm' := gM_o fr gm
    exact b_311 (may1 (by decide) (by decide) h00 (fun hc => ⟨fun _ => ok hc _ (fun _ _ _ => rfl), fun v => absurd v (by decide)⟩) (fun n => ⟨fun v => absurd rfl v, fun _ => no n⟩))
theorem o_19 {d c : Nat} {X : Nat → Nat → zH → Prop} {h : zH} {a : Int} (g : gI h) : zCl (d + 59) 134 [(2, 1), (0, a), (2, 156)] c h (fun k c h1 => (∀ j, h1 0 j = h 0 j) ∧ zCl (d + 59) 283 [(2, 113), (0, a)] c h1 (fun b _ h2 => gP h k b h2) X) X := by
  obtain ⟨t, t', l, l', p, p', b, b', r, f, N, P, s, n, L, I, T, m, gw, gc, gm, gx⟩ := id g
  obtain ⟨⟨wr, wl, wpl⟩, gw2, gw3, gw4, gw5⟩ := gw
  obtain ⟨rf, cr, cl, cp, cb, clg, cim, ctp, czr, cca⟩ := gc
  obtain ⟨⟨e5, e6, e7, e8, e9, e10, e11, e12⟩, rt, rl, rp, rb⟩ := rf
  have ht : zIsR t := by unfold zIsR; omega
  have hl : zIsL l := by unfold zIsL; omega
  have hp : zIsP p := by unfold zIsP; omega
  have hb : zIsB b := by unfold zIsB; omega
  have wd := wr_d wr
  have wq := wr_p wr
  have wn := wr_n wr
  have wb := wr_b wr
  have wc := wr_c wr
  refine comb1 (c := c) (cond := 0 ≤ a ∧ a < r 0 1) (V := mAh r (r 0 1).toNat a) 0 (fun R X => zCl (d + 58) 135 [(2, 1), (0, a)] c h R X) (fun c H R => zCl (d + 59) 283 [(2, 113), (0, a)] c H R X) (fun R => zCl (d + 59) 134 [(2, 1), (0, a), (2, 156)] c h R X) g (by decide) (fun R' z => b_134 z) (fun R' X' ok no => ?_) (fun c H R' fr ok no => ?_)
  · refine b_135 ht ⟨e5, ?_⟩
    rw [cr_d cr]
    refine s_117 (fun lo hi => ⟨e5, by omega, ?_⟩) (fun n => no n)
    rw [(cr_deed cr a lo hi).2.2.2.2.2.1]
    exact ok ⟨lo, hi⟩ h (fun _ _ _ => rfl)
  · have gm' := gM_o fr gm
    have mr := gm'.2.1
    have eD := mr_d mr
    refine b_283 (s_256 h00 (by decide) (by omega) (fun lo hi => ⟨fun _ => ?_, fun v => absurd v (by decide)⟩) (fun n => ⟨fun v => absurd rfl v, fun _ => no (by rw [← eD]; exact n)⟩))
    rw [w32_e (x := 5 * a) (by omega) (by omega), w32_e (x := 5 * a + 4) (by omega) (by omega), w32_e (x := a - 1) (by omega) (by omega), (mr_deed mr a lo (by omega)).2.2.2.2]
    obtain ⟨e, he⟩ := nat_of lo
    subst he
    exact ⟨by omega, s_283_31 mr wr (by omega) (ok (by omega) _ (fun _ _ _ => rfl))⟩
theorem o_20 {d c : Nat} {X : Nat → Nat → zH → Prop} {h : zH} {a : Int} (g : gI h) : zCl (d + 59) 136 [(2, 1), (0, a), (2, 156)] c h (fun k c h1 => (∀ j, h1 0 j = h 0 j) ∧ zCl (d + 59) 284 [(2, 113), (0, a)] c h1 (fun b _ h2 => gP h k b h2) X) X := by
  obtain ⟨t, t', l, l', p, p', b, b', r, f, N, P, s, n, L, I, T, m, gw, gc, gm, gx⟩ := id g
  obtain ⟨⟨wr, wl, wpl⟩, gw2, gw3, gw4, gw5⟩ := gw
  obtain ⟨rf, cr, cl, cp, cb, clg, cim, ctp, czr, cca⟩ := gc
  obtain ⟨⟨e5, e6, e7, e8, e9, e10, e11, e12⟩, rt, rl, rp, rb⟩ := rf
  have ht : zIsR t := by unfold zIsR; omega
  have hl : zIsL l := by unfold zIsL; omega
  have hp : zIsP p := by unfold zIsP; omega
  have hb : zIsB b := by unfold zIsB; omega
  have wd := wr_d wr
  have wq := wr_p wr
  have wn := wr_n wr
  have wb := wr_b wr
  have wc := wr_c wr
  refine comb1 (c := c) (cond := 0 ≤ a ∧ a < r 0 1) (V := mCh r (r 0 1).toNat a) 0 (fun R X => zCl (d + 58) 137 [(2, 1), (0, a)] c h R X) (fun c H R => zCl (d + 59) 284 [(2, 113), (0, a)] c H R X) (fun R => zCl (d + 59) 136 [(2, 1), (0, a), (2, 156)] c h R X) g (by decide) (fun R' z => b_136 z) (fun R' X' ok no => ?_) (fun c H R' fr ok no => ?_)
  · refine b_137 ht ⟨e5, ?_⟩
    rw [cr_d cr]
    refine s_117 (fun lo hi => ⟨e5, by omega, ?_⟩) (fun n => no n)
    rw [(cr_deed cr a lo hi).2.2.2.2.2.2]
    exact ok ⟨lo, hi⟩ h (fun _ _ _ => rfl)
  · have gm' := gM_o fr gm
    have mr := gm'.2.1
    have eD := mr_d mr
    refine b_284 (s_256 h00 (by decide) (by omega) (fun lo hi => ⟨fun _ => ?_, fun v => absurd v (by decide)⟩) (fun n => ⟨fun v => absurd rfl v, fun _ => no (by rw [← eD]; exact n)⟩))
    obtain ⟨e, he⟩ := nat_of lo
    subst he
    exact s_284_18 mr wr (by omega) (fun h' f' => ok (by omega) h' (fun o j w => f' o j (fun y => w (by unfold scM; omega))))
theorem o_34 {d c : Nat} {X : Nat → Nat → zH → Prop} {h : zH} {a : Int} (g : gI h) : zCl (d + 59) 187 [(2, 1), (0, a), (2, 156)] c h (fun k c h1 => (∀ j, h1 0 j = h 0 j) ∧ zCl (d + 59) 312 [(2, 113), (0, a)] c h1 (fun b _ h2 => gP h k b h2) X) X := by
  obtain ⟨t, t', l, l', p, p', b, b', r, f, N, P, s, n, L, I, T, m, gw, gc, gm, gx⟩ := id g
  obtain ⟨⟨wr, wl, wpl⟩, gw2, gw3, gw4, gw5⟩ := gw
  obtain ⟨rf, cr, cl, cp, cb, clg, cim, ctp, czr, cca⟩ := gc
  obtain ⟨⟨e5, e6, e7, e8, e9, e10, e11, e12⟩, rt, rl, rp, rb⟩ := rf
  have ht : zIsR t := by unfold zIsR; omega
  have hl : zIsL l := by unfold zIsL; omega
  have hp : zIsP p := by unfold zIsP; omega
  have hb : zIsB b := by unfold zIsB; omega
  have wd := wr_d wr
  have wq := wr_p wr
  have wn := wr_n wr
  have wb := wr_b wr
  have wc := wr_c wr
  refine comb1 (c := c) (cond := 1 ≤ a ∧ a ≤ 30) (V := w32 (Int.tdiv (dK (r 0 9) a a.toNat (r 0 8)) 1000)) 1 (fun R X => zCl (d + 58) 188 [(2, 1), (0, a)] c h R X) (fun c H R => zCl (d + 59) 312 [(2, 113), (0, a)] c H R X) (fun R => zCl (d + 59) 187 [(2, 1), (0, a), (2, 156)] c h R X) g (by decide) (fun R' z => b_187 z) (fun R' X' ok no => ?_) (fun c H R' fr ok no => ?_)
  · exact b_188 ht (s_61 (fun lo hi => ⟨e5, b_189 ht (s_190 ht cr wr ⟨lo, hi⟩ (fun h' f' => ok ⟨lo, hi⟩ h' (fun o j w => f' o j (fun y => w (by unfold scC; omega)) (fun y => w (by unfold scC; omega)))))⟩) (fun n => no n))
  · have gm' := gM_o fr gm
    have mr := gm'.2.1
    exact b_312 (b_313 (may1 (by decide) (by decide) h00 (fun hc => ⟨Or.inr rfl, fun _ => s_314 mr wr hc (fun h' f' => ok hc h' (fun o j w => f' o j (fun y => w (by unfold scM; omega)))), fun v => absurd v (by decide)⟩) (fun n => ⟨Or.inl rfl, fun v => absurd rfl v, fun _ => no n⟩)))
theorem o_35 {d c : Nat} {X : Nat → Nat → zH → Prop} {h : zH} {a : Int} (g : gI h) : zCl (d + 59) 193 [(2, 1), (0, a), (2, 156)] c h (fun k c h1 => (∀ j, h1 0 j = h 0 j) ∧ zCl (d + 59) 315 [(2, 113), (0, a)] c h1 (fun b _ h2 => gP h k b h2) X) X := by
  obtain ⟨t, t', l, l', p, p', b, b', r, f, N, P, s, n, L, I, T, m, gw, gc, gm, gx⟩ := id g
  obtain ⟨⟨wr, wl, wpl⟩, gw2, gw3, gw4, gw5⟩ := gw
  obtain ⟨rf, cr, cl, cp, cb, clg, cim, ctp, czr, cca⟩ := gc
  obtain ⟨⟨e5, e6, e7, e8, e9, e10, e11, e12⟩, rt, rl, rp, rb⟩ := rf
  have ht : zIsR t := by unfold zIsR; omega
  have hl : zIsL l := by unfold zIsL; omega
  have hp : zIsP p := by unfold zIsP; omega
  have hb : zIsB b := by unfold zIsB; omega
  have wd := wr_d wr
  have wq := wr_p wr
  have wn := wr_n wr
  have wb := wr_b wr
  have wc := wr_c wr
  refine comb1 (c := c) (cond := 1 ≤ a ∧ a ≤ 30) (V := Int.tmod (dK (r 0 9) a a.toNat (r 0 8)) 1000) 1 (fun R X => zCl (d + 58) 194 [(2, 1), (0, a)] c h R X) (fun c H R => zCl (d + 59) 315 [(2, 113), (0, a)] c H R X) (fun R => zCl (d + 59) 193 [(2, 1), (0, a), (2, 156)] c h R X) g (by decide) (fun R' z => b_193 z) (fun R' X' ok no => ?_) (fun c H R' fr ok no => ?_)
  · exact b_194 ht (s_61 (fun lo hi => ⟨e5, b_195 ht (s_190 ht cr wr ⟨lo, hi⟩ (fun h' f' => ok ⟨lo, hi⟩ h' (fun o j w => f' o j (fun y => w (by unfold scC; omega)) (fun y => w (by unfold scC; omega)))))⟩) (fun n => no n))
  · have gm' := gM_o fr gm
    have mr := gm'.2.1
    exact b_315 (b_313 (may1 (by decide) (by decide) h00 (fun hc => ⟨Or.inr rfl, fun _ => s_314 mr wr hc (fun h' f' => ok hc h' (fun o j w => f' o j (fun y => w (by unfold scM; omega)))), fun v => absurd v (by decide)⟩) (fun n => ⟨Or.inl rfl, fun v => absurd rfl v, fun _ => no n⟩)))
