/-! the soonest plan: a line placed, the class -/
def cSk (h : zH) (s : sS) (j : Int) : Prop := (∀ e : Int, 0 ≤ e → e < 12 → h 15 e = s.1 e) ∧ (∀ p : Int, 0 ≤ p → p < 4 → h (17 + j) p = s.2.1 p) ∧ (h 23 j = s.2.2.1.1 ∧ h 24 j = s.2.2.1.2) ∧ (s.2.2.2.length : Int) = j ∧ ∀ i : Int, 0 ≤ i → i < j → (h 12 i = pD s.2.2.2 i ∧ h 13 i = pB s.2.2.2 i) ∧ (0 ≤ pD s.2.2.2 i ∧ pD s.2.2.2 i < 12) ∧ (0 ≤ pB s.2.2.2 i ∧ pB s.2.2.2 i < 16)
def cBs (h : zH) (B : sB) : Prop := (B.1.1 = 1000000 → h 11 9 = -1 ∧ h 11 10 = -1) ∧ (B.1.1 ≠ 1000000 → (h 11 9 = B.1.1 ∧ h 11 10 = B.1.2) ∧ ∀ i : Int, 0 ≤ i → i < B.2.length → h 14 i = 100 * pD B.2 i + pB B.2 i) ∧ (0 ≤ B.1.1 ∧ B.1.1 ≤ 1000000 ∧ 0 ≤ B.1.2)
theorem cBs_fr {h h' : zH} {B : sB} (f1 : h' 11 9 = h 11 9 ∧ h' 11 10 = h 11 10) (f2 : ∀ i, h' 14 i = h 14 i) (w : cBs h B) : cBs h' B := by
  obtain ⟨a, b, c⟩ := w
  refine ⟨fun e => ?_, fun e => ?_, c⟩
  · rw [f1.1, f1.2]
    exact a e
  · rw [f1.1, f1.2]
    exact ⟨(b e).1, fun i u v => by rw [f2]; exact (b e).2 i u v⟩
def sOk (s : sS) (j : Int) : Prop := (∀ e : Int, 0 ≤ e → e < 12 → -1 ≤ s.1 e ∧ s.1 e ≤ 99 * j) ∧ (∀ p : Int, 0 ≤ p → p < 4 → 0 ≤ s.2.1 p ∧ s.2.1 p ≤ 99 * j) ∧ (0 ≤ s.2.2.1.1 ∧ s.2.2.1.1 ≤ 99 * j) ∧ (0 ≤ s.2.2.1.2 ∧ s.2.2.1.2 ≤ 2892 * j)
theorem sOk_s {r : zH} {f : Int → Int} {N : Nat} {s : sS} {d x j : Int} (wr : wRoad r) (hj : 0 ≤ j) (ok : sOk s j) (hd : 0 ≤ d ∧ d < r 0 1) (hb : sBg r s d x ≠ -1) : sOk (sSt r f N s d x) (j + 1) ∧ (0 ≤ sBg r s d x ∧ sBg r s d x ≤ 99 * j) ∧ (sBg r s d x < sEn r f N s d x ∧ sEn r f N s d x ≤ 99 * j + 99) := by
  obtain ⟨o1, o2, o3, o4⟩ := ok
  have hr := mEar_r (r := r) (E := s.1) (F := s.2.1) (e := d) (x := x) (b := 99 * j) wr hd.2 (by omega) (fun k a b => (o1 k a b).2) (fun k a b => (o2 k a b).2)
  have hr' : 0 ≤ sBg r s d x ∧ sBg r s d x ≤ 99 * j := by
    rcases hr with e | e
    · exact absurd e hb
    · exact e
  have hl := zCla_r (mStk f (mFa r d x (sBg r s d x)) N 0)
  have hn : sEn r f N s d x = sBg r s d x + zCla (mStk f (mFa r d x (sBg r s d x)) N 0) := rfl
  have hn' : sBg r s d x < sEn r f N s d x ∧ sEn r f N s d x ≤ 99 * j + 99 := by omega
  refine ⟨⟨fun k a b => ?_, fun p a b => ?_, ?_, ?_⟩, hr', hn'⟩
  · show -1 ≤ (if k = d then sEn r f N s d x else s.1 k) ∧ (if k = d then sEn r f N s d x else s.1 k) ≤ 99 * (j + 1)
    have := o1 k a b
    split
    · omega
    · omega
  · show 0 ≤ (if zb x p = 1 then sEn r f N s d x else s.2.1 p) ∧ (if zb x p = 1 then sEn r f N s d x else s.2.1 p) ≤ 99 * (j + 1)
    have := o2 p a b
    split
    · omega
    · omega
  · show 0 ≤ zMx s.2.2.1.1 (sEn r f N s d x) ∧ zMx s.2.2.1.1 (sEn r f N s d x) ≤ 99 * (j + 1)
    unfold zMx
    split
    · omega
    · omega
  · show 0 ≤ s.2.2.1.2 + mOnes x * mWm r d (sBg r s d x) (sEn r f N s d x) ∧ s.2.2.1.2 + mOnes x * mWm r d (sBg r s d x) (sEn r f N s d x) ≤ 2892 * (j + 1)
    have w1 := ones_nn x
    have w2 := mWm_r wr d (sBg r s d x) (sEn r f N s d x)
    have w3 := Int.mul_nonneg w1.1 w2.1
    have w4 := Int.mul_le_mul w1.2 w2.2 w2.1 (by decide)
    omega
theorem zo17 {j : Int} (h0 : 0 ≤ j) (h1 : j < 6) : (zK (17 + j)).1 = 50 ∧ ((zK (17 + j)).2 : Int) = 4 := by
  have : j = 0 ∨ j = 1 ∨ j = 2 ∨ j = 3 ∨ j = 4 ∨ j = 5 := by omega
  rcases this with e | e | e | e | e | e <;> subst e
  · exact zo_17
  · exact zo_18
  · exact zo_19
  · exact zo_20
  · exact zo_21
  · exact zo_22
theorem q_snoc : ∀ Q : List (Int × Int), Q ≠ [] → ∃ A c, Q = A ++ [c]
  | [], h => absurd rfl h
  | [c], _ => ⟨[], c, rfl⟩
  | b :: c :: Q, _ => by
    obtain ⟨A, x, e⟩ := q_snoc (c :: Q) (by simp)
    exact ⟨b :: A, x, by rw [e]; rfl⟩
theorem q_last {Q : List (Int × Int)} {j : Int} (h : (Q.length : Int) = j) (hj : 0 < j) : ∃ A, Q = A ++ [(pD Q (j - 1), pB Q (j - 1))] := by
  obtain ⟨A, c, e⟩ := q_snoc Q (fun w => by rw [w] at h; simp at h; omega)
  have hl : (A.length : Int) = j - 1 := by
    rw [e, List.length_append] at h
    simp only [List.length_cons, List.length_nil] at h
    omega
  have := pD_app (P := A) (x := c) (k := j - 1) (by omega) (by omega)
  rw [if_neg (by omega), if_neg (by omega), ← e] at this
  refine ⟨A, ?_⟩
  rw [this.1, this.2]
  exact e
theorem s_151 {d c : Nat} {R : Int → Nat → zH → Prop} {X : Nat → Nat → zH → Prop} {h : zH} {x1 x2 : Int} {B : sB} (cb : cBs h B) (h1 : 0 ≤ x1 ∧ x1 < 1000000) (k1 : vlt (x1, x2) B.1 → R 1 c h) (k0 : ¬ vlt (x1, x2) B.1 → R 0 c h) : zCl d 151 [(2, 11), (0, x1), (0, x2)] c h R X := by
  obtain ⟨a, b, r1, r2, r3⟩ := cb
  unfold vlt at k1 k0
  dsimp only at k1 k0
  by_cases w : B.1.1 = 1000000
  · have := a w
    exact b_151 ⟨fun _ => k1 (by omega), fun v => absurd this.1 v⟩
  · have := (b w).1
    rw [← this.1, ← this.2] at k1 k0
    exact b_151 ⟨fun v => by omega, fun _ => ⟨fun v => k1 (by omega), fun v => ⟨fun v2 => k0 (by omega), fun v2 => ⟨fun v3 => k0 (by omega), fun v3 => k1 (by omega)⟩⟩⟩⟩
/-- the cells that placing a line at a depth changes -/
def cSg (l j o i : Int) : Prop := ((o = 12 ∨ o = 13) ∧ i = j) ∨ o = 17 + j + 1 ∨ ((o = 23 ∨ o = 24) ∧ i = j + 1) ∨ o = l + 2 ∨ o = l + 3
theorem s_148 {d c : Nat} {R : Int → Nat → zH → Prop} {X : Nat → Nat → zH → Prop} {h r : zH} {t l e x j : Int} {f : Int → Int} {N D k : Nat} {s0 s : sS} {B : sB} (ht : zIsR t) (hl : l = 70 ∨ l = 74) (cr : cRoad t h r) (wr : wRoad r) (cl : cLaw l h f N) (wl : wLaw f N) (hj : 0 ≤ j ∧ j < 5) (he : 0 ≤ e ∧ e < r 0 1) (hx : 1 ≤ x ∧ x ≤ sNx r) (ck : cSk h s j) (ok : sOk s j) (cb : cBs h B) (tw : ∀ a : Int, 0 ≤ a → a < r 0 0 → cTw r h f N a) (hs : sCp r f N j.toNat s0 s.2.2.2 s) (hD : j.toNat + (k + 1) = D) (fi : sFi r f N D k s0 s e x B) (hen : s.1 e = -1) (k0 : ∀ h', (∀ o i, ¬ cSg l j o i → h' o i = h o i) → sXx r f N (sPl r f N k) s e x B = B → R 0 c h') (k1 : ∀ h', (∀ o i, ¬ cSg l j o i → ¬ (o = 15 ∧ i = e) → h' o i = h o i) → cSk h' (sSt r f N s e x) (j + 1) → sBg r s e x ≠ -1 → vlt (sSt r f N s e x).2.2.1 B.1 → R 1 c h') : zCl (d + 4) 148 [(2, 11), (2, t), (2, l), (0, j), (0, e), (0, x)] c h R X := by
  have nx := (sNx_e wr).2.1
  have wd := wr_d wr
  have ht' := ht
  unfold zIsR at ht'
  obtain ⟨q1, q2, q3, q4, q5⟩ := ck
  refine b_148 ht hl ?_
  rw [w32_e (x := j + 1) (by omega) (by omega)]
  have cont : zCl (d + 3) 150 [(2, 11), (2, t), (0, j), (0, x)] c h (fun y c h => (y = 0 → (0 ≤ j ∧ j < 6) ∧ zCl (d + 3) 22 [(2, t), (0, e), (0, x), (2, 15), (2, 17 + j)] c h (fun y3785 c3786 h3787 => (y3785 ≠ (-1) → zCl (d + 3) 28 [(2, l), (2, t), (0, e), (0, x), (0, y3785)] c3786 h3787 (fun y3788 c3789 h3790 => (0 ≤ j ∧ j < 6) ∧ (0 ≤ j + 1 ∧ j + 1 < 6) ∧ (0 ≤ j ∧ j < 6) ∧ zCl (d + 3) 24 [(0, x)] c3789 (hw h3790 23 (j + 1) (if h3790 23 j < w32 (y3785 + y3788) then w32 (y3785 + y3788) else h3790 23 j)) (fun y3791 c3792 h3793 => zCl (d + 3) 29 [(2, t), (0, e), (0, y3785), (0, w32 (y3785 + y3788))] c3792 h3793 (fun y3794 c3795 h3796 => (0 ≤ j + 1 ∧ j + 1 < 6) ∧ (0 ≤ j + 1 ∧ j + 1 < 6) ∧ (0 ≤ j + 1 ∧ j + 1 < 6) ∧ zCl (d + 3) 151 [(2, 11), (0, h3796 23 (j + 1)), (0, (hw h3796 24 (j + 1) (w32 ((h3790 24 j) + (w32 (y3791 * y3794))))) 24 (j + 1))] c3795 (hw h3796 24 (j + 1) (w32 ((h3790 24 j) + (w32 (y3791 * y3794))))) (fun y3797 c3798 h3799 => (y3797 ≠ 0 → (0 ≤ j ∧ j < 5) ∧ (0 ≤ j ∧ j < 5) ∧ (0 ≤ e ∧ e < 12) ∧ zWp (d + 4) 148 172 [(2, 11), (2, t), (2, l), (0, j), (0, e), (0, x), (0, y3785), (0, w32 (y3785 + y3788)), (0, 0)] [] (zTS c3798 (hw (hw (hw h3799 12 j e) 13 j x) 15 e (w32 (y3785 + y3788)))) (zQ 2 R X)) ∧ (y3797 = 0 → R 0 c3798 h3799)) X) X) X) X) ∧ (y3785 = (-1) → R 0 c3786 h3787)) X) ∧ (y ≠ 0 → R 0 c h)) X := by
    refine s_150 ht cr wr (by omega) (by omega) (fun a u v => (tw a u v).1) (fun ⟨a, b, g1, g2, g3, g4, g5, g6⟩ => ⟨fun v => absurd v (by decide), fun _ => k0 h (fun _ _ _ => rfl) (sSkT wr fi he hx hen g1 g2 ((tw a g1.1 g1.2).2 b g2.1 g2.2 g5) g3 g4 ?_)⟩) ⟨fun _ => ⟨by omega, ?_⟩, fun v => absurd rfl v⟩
    · have wp := wr_p wr
      rw [← q2 b (by omega) (by omega), ← q2 a (by omega) (by omega)]
      exact g6
    · refine s_22 ht zo_15 (zo17 hj.1 (by omega)) cr wr (by omega) he ?_
      have eb : mEar r (h 15) (h (17 + j)) e x = sBg r s e x := mEar_congr wr he.2 q1 q2
      rw [eb]
      refine ⟨fun nb => ?_, fun bb => k0 h (fun _ _ _ => rfl) (by unfold sXx; rw [if_pos bb])⟩
      obtain ⟨ok', br, en⟩ := sOk_s (f := f) (N := N) wr hj.1 ok he nb
      refine s_28 hl ht cr wr cl wl he (by omega) (fun h1 f1 => ?_)
      rw [show sBg r s e x + mLf r f N e x (sBg r s e x) = sEn r f N s e x from rfl]
      rw [w32_e (x := sEn r f N s e x) (by omega) (by omega)]
      refine ⟨by omega, by omega, by omega, s_24 (by omega) (by omega) ?_⟩
      have e23 : h1 23 j = s.2.2.1.1 := by rw [f1 _ _ (by omega) (by omega)]; exact q3.1
      have e24 : h1 24 j = s.2.2.1.2 := by rw [f1 _ _ (by omega) (by omega)]; exact q3.2
      rw [e23, e24]
      obtain ⟨h2, hh2⟩ : ∃ h2, h2 = hw h1 23 (j + 1) (if s.2.2.1.1 < sEn r f N s e x then sEn r f N s e x else s.2.2.1.1) := ⟨_, rfl⟩
      rw [← hh2]
      have f2 : ∀ o i, ¬ (o = 23 ∧ i = j + 1) → o ≠ l + 2 → o ≠ l + 3 → h2 o i = h o i := fun o i u v w => by rw [hh2, hw_ne (by omega), f1 o i v w]
      have cr2 : cRoad t h2 r := cRoad_fr (fun o i o1 o2 => f2 o i (by omega) (by omega) (by omega)) cr
      refine s_29 ht cr2 wr he ?_
      have w1 := ones_nn x
      have w2 := mWm_r wr e (sBg r s e x) (sEn r f N s e x)
      have w3 := Int.mul_nonneg w1.1 w2.1
      have w4 := Int.mul_le_mul w1.2 w2.2 w2.1 (by decide)
      have o4 := ok.2.2.2
      rw [w32_e (x := mOnes x * mWm r e (sBg r s e x) (sEn r f N s e x)) (by omega) (by omega), w32_e (x := s.2.2.1.2 + mOnes x * mWm r e (sBg r s e x) (sEn r f N s e x)) (by omega) (by omega)]
      rw [hw_eq ⟨rfl, rfl⟩, hh2, hw_eq ⟨rfl, rfl⟩, ← hh2]
      have ev : ((if s.2.2.1.1 < sEn r f N s e x then sEn r f N s e x else s.2.2.1.1), s.2.2.1.2 + mOnes x * mWm r e (sBg r s e x) (sEn r f N s e x)) = (sSt r f N s e x).2.2.1 := rfl
      obtain ⟨h3, hh3⟩ : ∃ h3, h3 = hw h2 24 (j + 1) (s.2.2.1.2 + mOnes x * mWm r e (sBg r s e x) (sEn r f N s e x)) := ⟨_, rfl⟩
      rw [← hh3]
      have f3 : ∀ o i, ¬ ((o = 23 ∨ o = 24) ∧ i = j + 1) → o ≠ l + 2 → o ≠ l + 3 → h3 o i = h o i := fun o i u v w => by rw [hh3, hw_ne (by omega), f2 o i (by omega) v w]
      have cb3 : cBs h3 B := cBs_fr ⟨f3 _ _ (by omega) (by omega) (by omega), f3 _ _ (by omega) (by omega) (by omega)⟩ (fun i => f3 _ _ (by omega) (by omega) (by omega)) cb
      refine ⟨by omega, by omega, by omega, s_151 cb3 ?_ (fun v => ⟨fun _ => ⟨by omega, by omega, by omega, ?_⟩, fun w => absurd w (by decide)⟩) (fun v => ⟨fun w => absurd rfl w, fun _ => k0 h3 (fun o i u => f3 o i (by unfold cSg at u; omega) (by unfold cSg at u; omega) (by unfold cSg at u; omega)) ?_⟩)⟩
      · have o3 := ok.2.2.1
        split
        · omega
        · omega
      · rw [ev] at v
        have v23 : h3 23 (j + 1) = (sSt r f N s e x).2.2.1.1 := by
          rw [hh3, hw_ne (by omega), hh2, hw_eq ⟨rfl, rfl⟩]
          rfl
        have v24 : h3 24 (j + 1) = (sSt r f N s e x).2.2.1.2 := by
          rw [hh3, hw_eq ⟨rfl, rfl⟩]
          rfl
        obtain ⟨h4, hh4⟩ : ∃ h4, h4 = hw (hw (hw h3 12 j e) 13 j x) 15 e (sEn r f N s e x) := ⟨_, rfl⟩
        rw [← hh4]
        have f4 : ∀ o i, ¬ ((o = 12 ∨ o = 13) ∧ i = j) → ¬ (o = 15 ∧ i = e) → h4 o i = h3 o i := fun o i u w => by rw [hh4, hw_ne (by omega), hw_ne (by omega), hw_ne (by omega)]
        have main := zDown (W := fun p : Nat => ∀ h5, (∀ o i, o ≠ 17 + (j + 1) → h5 o i = h4 o i) → (∀ p' : Int, 0 ≤ p' → p' < p → h5 (17 + (j + 1)) p' = (sSt r f N s e x).2.1 p') → zWp (d + 4) 148 172 [(2, 11), (2, t), (2, l), (0, j), (0, e), (0, x), (0, sBg r s e x), (0, sEn r f N s e x), (0, (p : Int))] [] (zTS c h5) (zQ 2 R X)) 4 ?_ ?_ 0 (by decide) h4 (fun _ _ _ => rfl) (fun p' u w => by omega)
        · exact main
        · intro h5 f5 g5
          refine b_148_172 ht hl ⟨fun _ => k1 h5 (fun o i u w => ?_) ⟨fun k u w => ?_, fun p u w => ?_, ⟨?_, ?_⟩, ?_, fun i u w => ?_⟩ nb v, fun w => by omega⟩
          · rw [f5 o i (by unfold cSg at u; omega), f4 o i (by unfold cSg at u; omega) w, f3 o i (by unfold cSg at u; omega) (by unfold cSg at u; omega) (by unfold cSg at u; omega)]
          · rw [f5 _ _ (by omega)]
            show h4 15 k = if k = e then sEn r f N s e x else s.1 k
            by_cases y : k = e
            · rw [if_pos y, hh4, hw_eq ⟨rfl, y⟩]
            · rw [if_neg y, f4 _ _ (by omega) (by omega), f3 _ _ (by omega) (by omega) (by omega), q1 k u w]
          · exact g5 p u (by omega)
          · rw [f5 _ _ (by omega), f4 _ _ (by omega) (by omega)]
            exact v23
          · rw [f5 _ _ (by omega), f4 _ _ (by omega) (by omega)]
            exact v24
          · show ((s.2.2.2 ++ [(e, x)]).length : Int) = j + 1
            rw [List.length_append]
            simp only [List.length_cons, List.length_nil]
            omega
          · show (h5 12 i = pD (s.2.2.2 ++ [(e, x)]) i ∧ h5 13 i = pB (s.2.2.2 ++ [(e, x)]) i) ∧ (0 ≤ pD (s.2.2.2 ++ [(e, x)]) i ∧ pD (s.2.2.2 ++ [(e, x)]) i < 12) ∧ (0 ≤ pB (s.2.2.2 ++ [(e, x)]) i ∧ pB (s.2.2.2 ++ [(e, x)]) i < 16)
            have pa := pD_app (P := s.2.2.2) (x := (e, x)) (k := i) u (by omega)
            by_cases y : i = j
            · rw [if_neg (by omega), if_neg (by omega)] at pa
              rw [pa.1, pa.2, f5 _ _ (by omega), f5 _ _ (by omega), hh4, hw_ne (by omega), hw_ne (by omega), hw_eq ⟨rfl, y⟩, hw_ne (by omega), hw_eq ⟨rfl, y⟩]
              exact ⟨⟨rfl, rfl⟩, by dsimp only; omega, by dsimp only; omega⟩
            · rw [if_pos (by omega), if_pos (by omega)] at pa
              rw [pa.1, pa.2, f5 _ _ (by omega), f5 _ _ (by omega), f4 _ _ (by omega) (by omega), f4 _ _ (by omega) (by omega), f3 _ _ (by omega) (by omega) (by omega), f3 _ _ (by omega) (by omega) (by omega)]
              exact q5 i u (by omega)
        · intro p hp ih h5 f5 g5
          refine b_148_172 ht hl ⟨fun w => by omega, fun _ => ?_⟩
          rw [w32_e (x := j + 1) (by omega) (by omega), w32_s (by omega)]
          refine ⟨by omega, fun nz => ⟨by omega, by omega, by omega, ?_⟩, fun z => ⟨by omega, ?_⟩⟩
          · refine ih _ (fun o i u => by rw [hw_ne (by omega), f5 o i u]) (fun p' u w => ?_)
            by_cases y : p' = p
            · rw [hw_eq ⟨rfl, y⟩, f5 _ _ (by omega), f4 _ _ (by omega) (by omega), f3 _ _ (by omega) (by omega) (by omega), q2 p (by omega) (by omega)]
              show s.2.1 p = if zb x p' = 1 then sEn r f N s e x else s.2.1 p'
              rw [y, if_neg nz]
            · rw [hw_ne (by omega)]
              exact g5 p' u (by omega)
          · refine ih _ (fun o i u => by rw [hw_ne (by omega), f5 o i u]) (fun p' u w => ?_)
            by_cases y : p' = p
            · rw [hw_eq ⟨rfl, y⟩]
              show sEn r f N s e x = if zb x p' = 1 then sEn r f N s e x else s.2.1 p'
              rw [y, if_pos z]
            · rw [hw_ne (by omega)]
              exact g5 p' u (by omega)
      · rw [ev] at v
        unfold sXx
        rw [if_neg nb]
        exact sPl_pr wr v
  refine b_149 ⟨fun _ => ⟨fun v => absurd rfl v, fun _ => cont⟩, fun j0 => ?_⟩
  rw [w32_e (x := j - 1) (by omega) (by omega)]
  have q5' := q5 (j - 1) (by omega) (by omega)
  refine ⟨by omega, fun _ => ⟨fun v => absurd rfl v, fun _ => cont⟩, fun lt => ⟨by omega, fun _ => ⟨fun v => absurd rfl v, fun _ => cont⟩, fun z => ⟨fun _ => ?_, fun v => absurd v (by decide)⟩⟩⟩
  obtain ⟨A, hA⟩ := q_last q4 j0
  rw [q5'.1.1] at lt
  rw [q5'.1.2] at z
  exact k0 h (fun _ _ _ => rfl) (sSkA wr hs hD fi.1 hA ⟨he.1, lt⟩ hx z hen)
