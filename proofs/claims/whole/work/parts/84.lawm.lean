/-! a law's text: the reference -/
def mCode (x x1 x2 : Int) : Prop := (x < 1000 → x1 = 0 ∧ x2 = x) ∧ (1000 ≤ x → x < 1006 → x1 = 1 ∧ x2 = x - 1000) ∧ (1006 ≤ x → x1 = x - 1004)
def mStp (h : zH) (L : List Int) : Prop := h 113 42 = (L.length : Int) ∧ ∀ k : Nat, k < L.length → mCode (L.getD k 0) (h 132 k) (h 133 k)
def mLz (o j : Int) : Prop := (o = 113 ∧ (j = 7 ∨ j = 42)) ∨ o = 132 ∨ o = 133
def mLt (o j : Int) : Prop := (o = 113 ∧ j = 42) ∨ o = 132 ∨ o = 133
theorem mStp_fr {h h' : zH} {L : List Int} (fr : ∀ o j, mLt o j → h' o j = h o j) (w : mStp h L) : mStp h' L :=
  ⟨by rw [fr _ _ (Or.inl ⟨rfl, rfl⟩)]; exact w.1, fun k hk => by rw [fr _ _ (Or.inr (Or.inl rfl)), fr _ _ (Or.inr (Or.inr rfl))]; exact w.2 k hk⟩
theorem s_246 {d c : Nat} {h : zH} {R : Int → Nat → zH → Prop} {X : Nat → Nat → zH → Prop} {x x1 x2 : Int} {L : List Int} (h5 : h 113 5 = -1) (st : mStp h L) (hl : (L.length : Int) < 150) (hx : mCode x x1 x2) (K : ∀ h', (∀ o j, ¬ mLt o j → h' o j = h o j) → mStp h' (L ++ [x]) → R 0 c h') : zCl (d + 1) 246 [(2, 113), (0, x1), (0, x2)] c h R X := by
  have s1 := st.1
  refine b_246 (b_224 ⟨fun w => absurd h5 w, fun _ => ⟨fun _ => ⟨by omega, by omega, ?_⟩, fun v => absurd v (by decide)⟩⟩)
  rw [s1, w32_e (by omega) (by omega)]
  obtain ⟨h9, hh9⟩ : ∃ h9, h9 = hw (hw (hw h 132 (L.length : Int) x1) 133 (L.length : Int) x2) 113 42 ((L.length : Int) + 1) := ⟨_, rfl⟩
  rw [← hh9]
  refine K _ (fun o j a => by rw [hh9, hw_ne (by unfold mLt at a; omega), hw_ne (by unfold mLt at a; omega), hw_ne (by unfold mLt at a; omega)]) ⟨?_, fun k hk => ?_⟩
  · rw [hh9, hw_eq ⟨rfl, rfl⟩]
    simp
  · simp at hk
    by_cases e : k = L.length
    · have a1 : h9 132 k = x1 := by rw [hh9, hw_ne (by omega), hw_ne (by omega), hw_eq ⟨rfl, by omega⟩]
      have a2 : h9 133 k = x2 := by rw [hh9, hw_ne (by omega), hw_eq ⟨rfl, by omega⟩]
      rw [a1, a2, e, gd_n]
      exact hx
    · have a1 : h9 132 k = h 132 k := by rw [hh9, hw_ne (by omega), hw_ne (by omega), hw_ne (by omega)]
      have a2 : h9 133 k = h 133 k := by rw [hh9, hw_ne (by omega), hw_ne (by omega), hw_ne (by omega)]
      rw [a1, a2, gd_l (by omega)]
      exact st.2 k (by omega)
theorem s_246u {d c : Nat} {h : zH} {R : Int → Nat → zH → Prop} {X : Nat → Nat → zH → Prop} {x1 x2 : Int} (h5 : h 113 5 ≠ -1) (K : R 0 c h) : zCl (d + 1) 246 [(2, 113), (0, x1), (0, x2)] c h R X :=
  b_246 (b_224 ⟨fun _ => ⟨fun v => absurd rfl v, fun _ => K⟩, fun w => absurd w h5⟩)
theorem s_244u {d c : Nat} {h : zH} {R : Int → Nat → zH → Prop} {X : Nat → Nat → zH → Prop} (h5 : h 113 5 ≠ -1) (K : R 0 c h) : zCl (d + 3) 244 [(2, 113)] c h R X :=
  b_244 (b_224 ⟨fun _ => ⟨fun v => absurd rfl v, fun _ => K⟩, fun w => absurd w h5⟩)
theorem s_243u {d c : Nat} {h : zH} {R : Int → Nat → zH → Prop} {X : Nat → Nat → zH → Prop} (h5 : h 113 5 ≠ -1) (K : R 0 c h) : zCl (d + 4) 243 [(2, 113)] c h R X :=
  b_243 (s_244u h5 (b_243_4 (b_224 ⟨fun _ => ⟨fun _ => K, fun v => absurd rfl v⟩, fun w => absurd w h5⟩)))
theorem s_242u {d c : Nat} {h : zH} {R : Int → Nat → zH → Prop} {X : Nat → Nat → zH → Prop} (h5 : h 113 5 ≠ -1) (K : R 0 c h) : zCl (d + 5) 242 [(2, 113)] c h R X :=
  b_242 (s_243u h5 (b_242_4 (b_224 ⟨fun _ => ⟨fun _ => K, fun v => absurd rfl v⟩, fun w => absurd w h5⟩)))
theorem s_245 {d c : Nat} {h : zH} {R : Int → Nat → zH → Prop} {X : Nat → Nat → zH → Prop} {x1 b : Int} (h5 : h 113 5 = -1) (h4 : h 113 4 = b) (hb : 0 ≤ b ∧ b ≤ 1000) (hx : 0 ≤ x1 ∧ x1 ≤ 10) (hop : 0 ≤ h 113 7 ∧ h 113 7 ≤ 6) (k1 : h 113 7 < 6 → R 0 c (hw (hw h 113 4 (b + x1)) 113 7 (h 113 7 + 1))) (k0 : 6 ≤ h 113 7 → R 0 c (hw (hw (hw h 113 5 b) 113 6 3) 113 7 7)) : zCl (d + 1) 245 [(2, 113), (0, x1)] c h R X := by
  refine b_245 (b_224 ⟨fun w => absurd h5 w, fun _ => ⟨fun v => absurd v (by decide), fun _ => ⟨fun n6 => b_224 ⟨fun w => absurd h5 w, fun _ => ⟨fun v => absurd v (by decide), fun _ => ?_⟩⟩, fun e6 => s_232 h5 (b_224 ⟨fun _ => ⟨fun _ => ?_, fun v => absurd rfl v⟩, fun w => ?_⟩)⟩⟩⟩)
  · rw [h4, w32_e (x := b + x1) (by omega) (by omega), w32_e (by omega) (by omega)]
    exact k1 (by omega)
  · rw [hw_ne (by omega), hw_ne (by omega), e6, h4, show w32 (6 + 1) = 7 by decide]
    exact k0 (by omega)
  · rw [hw_ne (by omega), hw_eq ⟨rfl, rfl⟩] at w
    omega
theorem s_249 {d c : Nat} {T : Int → Int} {n : Int} (wt : wTape T n) {R : Int → Nat → zH → Prop} {X : Nat → Nat → zH → Prop} {h : zH} {a : Int} (mt : mTape h T n) (h4 : h 113 4 = nB T n a) (ha : 0 ≤ a ∧ a ≤ n) (k1 : lMin T n a → R 1 c h) (k0 : ¬ lMin T n a → R 0 c h) (hh : ∀ h', (∀ o j, ¬ (o = 113 ∧ j = 4) → h' o j = h o j) → h' 113 4 = nB T n a → h' = h) : zCl (d + 1) 249 [(2, 113), (5, 37)] c h R X := by
  have w1 := wt.1
  have hbw := nBW (T := T) ha.2
  refine b_249 (s_226 wt mt (by omega) (fun h1 f1 e1 => ?_))
  rw [show run isB T n (h 113 4) = nB T n (h 113 4) from rfl, h4, nB_i ha.2] at e1
  rw [hh h1 f1 e1]
  have run_e : ∀ m : Nat, (m : Int) ≤ 7 → nB T n a + m ≤ n → (∀ i : Nat, i < m → T (nB T n a + i) = zTc 37 i) → run isS T n (nB T n a + m) = wE T n a := by
    intro m
    induction m with
    | zero =>
      intro _ _ _
      show run isS T n (nB T n a + 0) = run isS T n (nB T n a)
      rw [Int.add_zero]
    | succ m ih =>
      intro h7 hn hT
      have r := ih (by omega) (by omega) (fun i hi => hT i (by omega))
      have tm := hT m (by omega)
      have zc : ∀ j : Nat, j < 7 → 97 ≤ zTc 37 j ∧ zTc 37 j ≤ 122 := by decide +kernel
      have zm := zc m (by omega)
      rw [run_lt (by omega), if_pos (by rw [isS_t, tm]; exact zm)] at r
      rw [show nB T n a + ((m + 1 : Nat) : Int) = nB T n a + m + 1 by omega]
      exact r
  have zl : zTl 37 = 7 := rfl
  have zz : ∀ j : Nat, j < 7 → zTc 37 j = zTc 15 j := by decide +kernel
  have nomin : ∀ m : Nat, m < 7 → (n ≤ nB T n a + m ∨ T (nB T n a + m) ≠ zTc 37 m) → ¬ lMin T n a := by
    intro m hm hv w
    have w2 := lMin_i.mp w
    rw [show zTl 15 = 7 from rfl] at w2
    have := w2.2 m (by omega) (by omega)
    rw [← zz m hm] at this
    rcases hv with v | v
    · omega
    · exact v this
  have main := zDown (W := fun m : Nat => (∀ i : Nat, i < m → T (nB T n a + i) = zTc 37 i) → nB T n a + m ≤ n → zWp (d + 1) 249 7 [(2, 113), (5, 37), (0, (m : Int))] [] (zTS c h) (zQ 2 R X)) 7 ?_ ?_ 0 (by decide) (fun i hi => by omega) (by omega)
  · exact main
  · intro hT hn
    have er := run_e 7 (by decide) hn hT
    refine b_249_7 ⟨by decide, fun _ => ⟨by decide, fun w => ?_, fun w => ?_⟩, fun w => by omega⟩
    · rw [h4, zl, w32_e (by omega) (by omega), mt.1] at w
      rw [run_n (by omega)] at er
      refine k1 (lMin_i.mpr ⟨?_, fun i u v => ?_⟩)
      · rw [show zTl 15 = 7 from rfl]
        omega
      · rw [show zTl 15 = 7 from rfl] at v
        have := hT i.toNat (by omega)
        rw [Int.toNat_of_nonneg u] at this
        rw [this]
        have := zz i.toNat (by omega)
        rw [Int.toNat_of_nonneg u] at this
        exact this
    · rw [h4, zl, w32_e (by omega) (by omega)] at w
      rw [mt.1] at w
      rw [h4, zl, w32_e (by omega) (by omega), mt.2 _ (by omega) (by omega)]
      refine ⟨by decide, by omega, ?_⟩
      have rl := run_lt (p := isS) (T := T) (n := n) (a := nB T n a + 7) (by omega)
      have er' : run isS T n (nB T n a + 7) = wE T n a := er
      have no : isS (T (nB T n a + 7)) = true → ¬ lMin T n a := by
        intro v m
        rw [if_pos v] at rl
        have := run_b (p := isS) (T := T) (n := n) (a := nB T n a + 7 + 1) (by omega)
        have := m.1
        omega
      have yes : ¬ isS (T (nB T n a + 7)) = true → lMin T n a := by
        intro v
        rw [if_neg v] at rl
        refine lMin_i.mpr ⟨?_, fun i u v => ?_⟩
        · rw [show zTl 15 = 7 from rfl]
          omega
        · rw [show zTl 15 = 7 from rfl] at v
          have := hT i.toNat (by omega)
          rw [Int.toNat_of_nonneg u] at this
          rw [this]
          have := zz i.toNat (by omega)
          rw [Int.toNat_of_nonneg u] at this
          exact this
      refine b_228 ⟨fun v => ⟨fun z => absurd rfl z, fun _ => k1 (yes (fun z => by have := isS_t.mp z; omega))⟩, fun v => ⟨fun v2 => ⟨fun z => absurd rfl z, fun _ => k1 (yes (fun z => by have := isS_t.mp z; omega))⟩, fun v2 => ⟨fun _ => k0 (no (isS_t.mpr ⟨v, v2⟩)), fun z => absurd z (by decide)⟩⟩⟩
  · intro m hm ih hT hn
    refine b_249_7 ⟨by decide, fun w => by rw [zl] at w; omega, fun _ => ?_⟩
    rw [h4, w32_e (x := nB T n a + (m : Int)) (by omega) (by omega), mt.1]
    refine ⟨fun w => k0 (nomin m hm (Or.inl w)), fun w => ⟨by omega, by decide, by rw [zl]; omega, fun v => ?_, fun v => ?_⟩⟩
    · rw [mt.2 _ (by omega) w] at v
      rw [w32_s (by omega)]
      refine ih (fun i hi => ?_) (by omega)
      by_cases e : i = m
      · rw [e]
        exact v
      · exact hT i (by omega)
    · rw [mt.2 _ (by omega) w] at v
      exact k0 (nomin m hm (Or.inr v))
theorem s_248 {d c : Nat} {T : Int → Int} {n : Int} (wt : wTape T n) {R : Int → Nat → zH → Prop} {X : Nat → Nat → zH → Prop} {h : zH} {a : Int} (mt : mTape h T n) (h4 : h 113 4 = nB T n a) (ha : 0 ≤ a ∧ a ≤ n) (k : R (lFa T n a) c h) : zCl (d + 2) 248 [(2, 113)] c h R X := by
  have hbw := nBW (T := T) ha.2
  have hh : ∀ h', (∀ o j, ¬ (o = 113 ∧ j = 4) → h' o j = h o j) → h' 113 4 = nB T n a → h' = h := by
    intro h' f e
    funext o j
    by_cases w : o = 113 ∧ j = 4
    · rw [w.1, w.2, e, h4]
    · exact f o j w
  unfold lFa fOf at k
  refine b_248 (s_249 wt mt h4 ha (fun m => ⟨fun v => absurd v (by decide), fun _ => ?_⟩) (fun m => ⟨fun _ => s_227 wt mt (by omega) (fun h1 f1 e1 => ?_), fun v => absurd rfl v⟩) hh)
  · rw [if_pos m] at k
    exact k
  rw [h4, nB_i ha.2] at e1
  rw [h4, nB_i ha.2, wE_i ha.2, hh h1 f1 e1]
  rw [if_neg m] at k
  refine s_230 (wOk_j (by decide) (by decide) (by decide)) ⟨fun ne => ?_, fun e => by rw [if_pos (e.trans (by decide +kernel))] at k; exact k⟩
  rw [if_neg (fun v => ne (v.trans (by decide +kernel)))] at k
  refine s_230 (wOk_j (by decide) (by decide) (by decide)) ⟨fun ne => ?_, fun e => by rw [if_pos (e.trans (by decide +kernel))] at k; exact k⟩
  rw [if_neg (fun v => ne (v.trans (by decide +kernel)))] at k
  refine s_230 (wOk_j (by decide) (by decide) (by decide)) ⟨fun ne => ?_, fun e => by rw [if_pos (e.trans (by decide +kernel))] at k; exact k⟩
  rw [if_neg (fun v => ne (v.trans (by decide +kernel)))] at k
  refine s_230 (wOk_j (by decide) (by decide) (by decide)) ⟨fun ne => ?_, fun e => by rw [if_pos (e.trans (by decide +kernel))] at k; exact k⟩
  rw [if_neg (fun v => ne (v.trans (by decide +kernel)))] at k
  refine s_230 (wOk_j (by decide) (by decide) (by decide)) ⟨fun ne => ?_, fun e => by rw [if_pos (e.trans (by decide +kernel))] at k; exact k⟩
  rw [if_neg (fun v => ne (v.trans (by decide +kernel)))] at k
  exact k
