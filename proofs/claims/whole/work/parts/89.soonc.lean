/-! the soonest plan: what is asked of a road, the class -/
theorem s_142 {d c : Nat} {R : Int → Nat → zH → Prop} {X : Nat → Nat → zH → Prop} {h : zH} {l : Int} {f : Int → Int} {N : Nat} (hl : zIsL l) (cl : cLaw l h f N) (wl : wLaw f N) (k1 : R 1 c h) (k0 : (∀ k : Nat, k < N → f k ≠ 1002) → R 0 c h) : zCl d 142 [(2, l)] c h R X := by
  have wN := wl.1
  refine b_142 hl ?_
  have main := zDown (W := fun i : Nat => (∀ k : Nat, k < i → f k ≠ 1002) → zWp d 142 2 [(2, l), (0, (i : Int))] [] (zTS c h) (zQ 2 R X)) N ?_ ?_ 0 (by omega) (fun k hk => by omega)
  · exact main
  · intro hf
    exact b_142_2 hl ⟨fun _ => k0 hf, fun w => by rw [cl.1] at w; omega⟩
  · intro i hi ih hf
    refine b_142_2 hl ⟨fun w => by rw [cl.1] at w; omega, fun _ => ⟨by omega, fun w => ?_, fun _ => k1⟩⟩
    rw [cl.2 i (by omega) (by omega)] at w
    rw [w32_s (by omega)]
    refine ih (fun k hk => ?_)
    by_cases e : k = i
    · rw [e]
      exact w
    · exact hf k (by omega)
theorem zBo0 : ∀ x : Nat, x < 16 → ∀ a : Nat, a < 4 → ∀ b : Nat, b < 4 → (0 ≤ zAnd x (zOr (zShl 1 a) (zShl 1 b)) ∧ zAnd x (zOr (zShl 1 a) (zShl 1 b)) < 16) ∧ (0 ≤ zXor x (zOr (zShl 1 a) (zShl 1 b)) ∧ zXor x (zOr (zShl 1 a) (zShl 1 b)) < 16) := by decide +kernel
theorem s_144 {d c : Nat} {R : Int → Nat → zH → Prop} {X : Nat → Nat → zH → Prop} {h r : zH} {t a b ask : Int} {f : Int → Int} {N : Nat} (ht : zIsR t) (cr : cRoad t h r) (wr : wRoad r) (ha : 0 ≤ a ∧ a < r 0 0) (hb : 0 ≤ b ∧ b < a) (hask : ask = 0 → ∀ k : Nat, k < N → f k ≠ 1002) (k1 : sTw r f N a b → R 1 c h) (k0 : R 0 c h) : zCl (d + 3) 144 [(2, t), (0, a), (0, b), (0, ask)] c h R X := by
  have wp := wr_p wr
  have wd := wr_d wr
  have nx := sNx_e wr
  have ea := cr_strong cr a ha.1 ha.2
  have eb := cr_strong cr b hb.1 (by omega)
  have eP := cr_p cr
  have eD := cr_d cr
  refine b_144 ht ⟨fun _ => ⟨by omega, by omega, fun _ => k0, fun w => k1 (sTw_s wr ha (by omega) (by rw [← ea, ← eb]; exact w))⟩, fun w0 => ⟨by omega, by omega, fun _ => ?_, fun w => ⟨by omega, by omega, fun _ => k0, fun w => k1 (sTw_s wr ha (by omega) (by rw [← ea, ← eb]; exact w))⟩⟩⟩
  obtain ⟨D, hD⟩ := nat_of wd.1
  have main := zDown (W := fun e : Nat => (∀ d' x : Int, 0 ≤ d' → d' < e → 1 ≤ x → x ≤ sNx r → mOnes (zAnd x (zOr (zShl 1 a) (zShl 1 b))) = 1 → (mCan r x d' ↔ mCan r (zXor x (zOr (zShl 1 a) (zShl 1 b))) d')) → zWp (d + 3) 144 52 [(2, t), (0, a), (0, b), (0, ask), (0, zOr (zShl 1 a) (zShl 1 b)), (0, (e : Int)), (9, 0)] [] (zTS c h) (zQ 2 R X)) D ?_ ?_ 0 (by omega) (fun d' x h1 h2 => by omega)
  · exact main
  · intro hc
    refine b_144_52 ht ⟨fun _ => k1 (sTw_n wr ha hb (hask w0) (fun d' x h1 h2 => hc d' x h1 (by omega))), fun w => by rw [eD] at w; omega⟩
  · intro e he ih hc
    refine b_144_52 ht ⟨fun w => by rw [eD] at w; omega, fun _ => ?_⟩
    have inner := zDown (W := fun x : Nat => 1 ≤ x → (∀ x' : Int, 1 ≤ x' → x' < x → mOnes (zAnd x' (zOr (zShl 1 a) (zShl 1 b))) = 1 → (mCan r x' e ↔ mCan r (zXor x' (zOr (zShl 1 a) (zShl 1 b))) e)) → zWp (d + 3) 144 64 [(2, t), (0, a), (0, b), (0, ask), (0, zOr (zShl 1 a) (zShl 1 b)), (0, (e : Int)), (0, (x : Int))] [] (zTS c h) (zQ 2 R X)) (sNx r + 1) ?_ ?_ 1 (by omega) (by omega) (fun x' h1 h2 => by omega)
    · exact inner
    · intro _ hx
      refine b_144_64 ht ⟨fun _ => ?_, fun w => by rw [eP, nx.2.2] at w; omega⟩
      rw [w32_s (by omega)]
      refine ih (fun d' x h1 h2 h3 h4 => ?_)
      by_cases w : d' = e
      · rw [w]
        exact hx x h3 (by omega)
      · exact hc d' x h1 (by omega) h3 h4
    · intro x hx0 ih2 x1 hx
      have zr : (0 ≤ zAnd x (zOr (zShl 1 a) (zShl 1 b)) ∧ zAnd x (zOr (zShl 1 a) (zShl 1 b)) < 16) ∧ (0 ≤ zXor x (zOr (zShl 1 a) (zShl 1 b)) ∧ zXor x (zOr (zShl 1 a) (zShl 1 b)) < 16) := by
        obtain ⟨a, rfl⟩ := nat_of ha.1
        obtain ⟨b, rfl⟩ := nat_of hb.1
        exact zBo0 x (by omega) a (by omega) b (by omega)
      have next : (mOnes (zAnd x (zOr (zShl 1 a) (zShl 1 b))) = 1 → (mCan r x e ↔ mCan r (zXor x (zOr (zShl 1 a) (zShl 1 b))) e)) → zWp (d + 3) 144 64 [(2, t), (0, a), (0, b), (0, ask), (0, zOr (zShl 1 a) (zShl 1 b)), (0, (e : Int)), (0, w32 ((x : Int) + 1))] [] (zTS c h) (zQ 2 R X) := by
        intro hq
        rw [w32_s (by omega)]
        refine ih2 (by omega) (fun x' h1 h2 => ?_)
        by_cases w : x' = x
        · rw [w]
          exact hq
        · exact hx x' h1 (by omega)
      refine b_144_64 ht ⟨fun w => by rw [eP, nx.2.2] at w; omega, fun _ => s_24 zr.1.1 (by omega) ⟨fun w => next (fun v => absurd v w), fun w => ?_⟩⟩
      refine s_23 ht cr wr (by omega) (by omega) (fun p => s_23 ht cr wr (by omega) (by omega) (fun q => ⟨fun _ => next (fun _ => ⟨fun _ => q, fun _ => p⟩), fun v => absurd rfl v⟩) (fun q => ⟨fun v => absurd v (by decide), fun _ => k0⟩)) (fun p => s_23 ht cr wr (by omega) (by omega) (fun q => ⟨fun v => absurd v (by decide), fun _ => k0⟩) (fun q => ⟨fun _ => next (fun _ => ⟨fun v => absurd v p, fun v => absurd v q⟩), fun v => absurd rfl v⟩))
def cTw (r h : zH) (f : Int → Int) (N : Nat) (a : Int) : Prop := (0 ≤ h 25 a ∧ h 25 a < 16) ∧ ∀ b : Int, 0 ≤ b → b < a → zb (h 25 a) b = 1 → sTw r f N a b
theorem s_143 {d c : Nat} {R : Int → Nat → zH → Prop} {X : Nat → Nat → zH → Prop} {h r : zH} {t ask : Int} {f : Int → Int} {N : Nat} (ht : zIsR t) (cr : cRoad t h r) (wr : wRoad r) (hask : ask = 0 → ∀ k : Nat, k < N → f k ≠ 1002) (k : ∀ h', (∀ o j, o ≠ 25 → h' o j = h o j) → (∀ a : Int, 0 ≤ a → a < r 0 0 → cTw r h' f N a) → R 0 c h') : zCl (d + 4) 143 [(2, 11), (2, t), (0, ask)] c h R X := by
  have wp := wr_p wr
  obtain ⟨P, hP⟩ := nat_of wp.1
  have ht' := ht
  unfold zIsR at ht'
  refine b_143 ht ?_
  have main := zDown (W := fun a : Nat => ∀ h1, (∀ o j, o ≠ 25 → h1 o j = h o j) → (∀ a' : Int, 0 ≤ a' → a' < a → cTw r h1 f N a') → zWp (d + 4) 143 2 [(2, 11), (2, t), (0, ask), (0, (a : Int)), (9, 0)] [] (zTS c h1) (zQ 0 R X)) P ?_ ?_ 0 (by omega) h (fun _ _ _ => rfl) (fun a' h1 h2 => by omega)
  · exact main
  · intro h1 f1 g1
    exact b_143_2 ht ⟨fun _ => k h1 f1 (fun a h1 h2 => g1 a h1 (by omega)), fun w => by rw [f1 _ _ (by omega), cr_p cr] at w; omega⟩
  · intro a ha ih h1 f1 g1
    refine b_143_2 ht ⟨fun w => by rw [f1 _ _ (by omega), cr_p cr] at w; omega, fun _ => ⟨by omega, ?_⟩⟩
    have inner := zDown (W := fun b : Nat => ∀ h2, (∀ o j, o ≠ 25 → h2 o j = h o j) → (∀ a' : Int, 0 ≤ a' → a' < a → cTw r h2 f N a') → (0 ≤ h2 25 a ∧ h2 25 a < 16) → (∀ b' : Int, 0 ≤ b' → b' < a → zb (h2 25 a) b' = 1 → b' < b ∧ sTw r f N a b') → zWp (d + 4) 143 20 [(2, 11), (2, t), (0, ask), (0, (a : Int)), (0, (b : Int))] [] (zTS c h2) (zQ 0 R X)) a ?_ ?_ 0 (by omega) (hw h1 25 a 0) (fun o j w => by rw [hw_ne (by omega), f1 o j w]) (fun a' p1 p2 => ?_) (by rw [hw_eq ⟨rfl, rfl⟩]; decide) (fun b' p1 p2 p3 => ?_)
    · exact inner
    · intro h2 f2 g2 b2 z2
      refine b_143_20 ht ⟨fun _ => ?_, fun w => by omega⟩
      rw [w32_s (by omega)]
      refine ih h2 f2 (fun a' p1 p2 => ?_)
      by_cases w : a' = a
      · rw [w]
        exact ⟨b2, fun b' q1 q2 q3 => (z2 b' q1 q2 q3).2⟩
      · exact g2 a' p1 (by omega)
    · intro b hb ih2 h2 f2 g2 b2 z2
      have cr2 : cRoad t h2 r := cRoad_fr (fun o j o1 o2 => f2 o j (by omega)) cr
      refine b_143_20 ht ⟨fun w => by omega, fun _ => s_144 ht cr2 wr (by omega) (by omega) hask (fun tw => ⟨fun v => absurd v (by decide), fun _ => ⟨by omega, by omega, ?_⟩⟩) ⟨fun _ => ?_, fun v => absurd rfl v⟩⟩
      · rw [w32_s (by omega)]
        have zr := zOr_r (x := h2 25 a) (d := b) (n := 4) (by omega) b2.1 b2.2 (by omega) (by omega)
        refine ih2 _ (fun o j w => by rw [hw_ne (by omega), f2 o j w]) (fun a' p1 p2 => ?_) (by rw [hw_eq ⟨rfl, rfl⟩]; exact zr) (fun b' p1 p2 p3 => ?_)
        · have := g2 a' p1 p2
          unfold cTw at this ⊢
          rw [hw_ne (by omega)]
          exact this
        · rw [hw_eq ⟨rfl, rfl⟩, zb_or b2.1 (by omega) (by omega) (by omega) p1 (by omega)] at p3
          by_cases w : b' = b
          · rw [w]
            exact ⟨by omega, tw⟩
          · rw [if_neg w] at p3
            have := z2 b' p1 p2 p3
            exact ⟨by omega, this.2⟩
      · rw [w32_s (by omega)]
        exact ih2 h2 f2 g2 b2 (fun b' p1 p2 p3 => ⟨by have := (z2 b' p1 p2 p3).1; omega, (z2 b' p1 p2 p3).2⟩)
    · have := g1 a' p1 p2
      unfold cTw at this ⊢
      rw [hw_ne (by omega)]
      exact this
    · rw [hw_eq ⟨rfl, rfl⟩] at p3
      have : zb 0 b' = 0 := zb_hi (n := 0) (by decide) (by decide) (by decide) (by omega) (by omega)
      omega
theorem s_145 {d c : Nat} {R : Int → Nat → zH → Prop} {X : Nat → Nat → zH → Prop} {h r : zH} {t : Int} (ht : zIsR t) (cr : cRoad t h r) (wr : wRoad r) (k1 : R 1 c h) (k0 : (∃ e : Int, (0 ≤ e ∧ e < r 0 1) ∧ ∀ x : Int, 1 ≤ x → x ≤ sNx r → ¬ mCan r x e) → R 0 c h) : zCl (d + 3) 145 [(2, t)] c h R X := by
  have wp := wr_p wr
  have wd := wr_d wr
  have nx := sNx_e wr
  have eP := cr_p cr
  have eD := cr_d cr
  obtain ⟨D, hD⟩ := nat_of wd.1
  refine b_145 ht ?_
  have main := zDown (W := fun e : Nat => zWp (d + 3) 145 2 [(2, t), (0, (e : Int)), (9, 0), (9, 0)] [] (zTS c h) (zQ 2 R X)) D ?_ ?_ 0 (by omega)
  · exact main
  · exact b_145_2 ht ⟨fun _ => k1, fun w => by rw [eD] at w; omega⟩
  · intro e he ih
    refine b_145_2 ht ⟨fun w => by rw [eD] at w; omega, fun _ => ?_⟩
    have fin1 : ∀ x : Int, zWp (d + 3) 145 14 [(2, t), (0, (e : Int)), (0, 1), (0, x)] [] (zTS c h) (zQ 2 R X) := by
      intro x
      have go : zWp (d + 3) 145 2 [(2, t), (0, w32 ((e : Int) + 1)), (9, 0), (9, 0)] [] (zTS c h) (zQ 2 R X) := by
        rw [w32_s (by omega)]
        exact ih
      exact b_145_14 ht ⟨fun _ => ⟨fun _ => go, fun v => absurd v (by decide)⟩, fun _ => ⟨fun _ => ⟨fun _ => go, fun v => absurd v (by decide)⟩, fun v => absurd v (by decide)⟩⟩
    have inner := zDown (W := fun x : Nat => 1 ≤ x → (∀ x' : Int, 1 ≤ x' → x' < x → ¬ mCan r x' e) → zWp (d + 3) 145 14 [(2, t), (0, (e : Int)), (0, 0), (0, (x : Int))] [] (zTS c h) (zQ 2 R X)) (sNx r + 1) ?_ ?_ 1 (by omega) (by omega) (fun x' h1 h2 => by omega)
    · exact inner
    · intro _ hx
      exact b_145_14 ht ⟨fun _ => ⟨fun v => absurd rfl v, fun _ => k0 ⟨e, by omega, fun x h1 h2 => hx x h1 (by omega)⟩⟩, fun w => by rw [eP, nx.2.2] at w; omega⟩
    · intro x hx0 ih2 x1 hx
      refine b_145_14 ht ⟨fun w => by rw [eP, nx.2.2] at w; omega, fun _ => ⟨fun v => absurd rfl v, fun _ => s_23 ht cr wr (by omega) (by omega) (fun _ => fin1 _) (fun nc => ?_)⟩⟩
      rw [w32_s (by omega)]
      refine ih2 (by omega) (fun x' h1 h2 => ?_)
      by_cases w : x' = x
      · rw [w]
        exact nc
      · exact hx x' h1 (by omega)
theorem zTn0 : ∀ m : Nat, m < 16 → ∀ x : Nat, x < 16 → ∀ q : Nat, q < 4 → (zAnd (zAnd m (zXor x (-1))) (zShl 1 q) ≠ 0 → (zb m q = 1 ∧ zb x q = 0)) := by decide +kernel
theorem s_150 {d c : Nat} {R : Int → Nat → zH → Prop} {X : Nat → Nat → zH → Prop} {h r : zH} {t x j : Int} (ht : zIsR t) (cr : cRoad t h r) (wr : wRoad r) (hj : 0 ≤ j ∧ j < 6) (hx : 0 ≤ x ∧ x < 16) (h25 : ∀ a : Int, 0 ≤ a → a < r 0 0 → 0 ≤ h 25 a ∧ h 25 a < 16) (k1 : (∃ a b : Int, (0 ≤ a ∧ a < r 0 0) ∧ (0 ≤ b ∧ b < a) ∧ zb x a = 1 ∧ zb x b = 0 ∧ zb (h 25 a) b = 1 ∧ h (17 + j) b = h (17 + j) a) → R 1 c h) (k0 : R 0 c h) : zCl (d + 1) 150 [(2, 11), (2, t), (0, j), (0, x)] c h R X := by
  have wp := wr_p wr
  have eP := cr_p cr
  obtain ⟨P, hP⟩ := nat_of wp.1
  refine b_150 ht ?_
  by_cases p0 : P = 0
  · exact b_150_3 ht ⟨fun _ => k0, fun w => by rw [eP] at w; omega⟩
  have main := zDown (W := fun a : Nat => zWp (d + 1) 150 3 [(2, 11), (2, t), (0, j), (0, x), (0, (a : Int)), (9, 0)] [] (zTS c h) (zQ 2 R X)) P ?_ ?_ 1 (by omega)
  · exact main
  · exact b_150_3 ht ⟨fun _ => k0, fun w => by rw [eP] at w; omega⟩
  · intro a ha ih
    have nxt : zWp (d + 1) 150 3 [(2, 11), (2, t), (0, j), (0, x), (0, w32 ((a : Int) + 1)), (9, 0)] [] (zTS c h) (zQ 2 R X) := by
      rw [w32_s (by omega)]
      exact ih
    refine b_150_3 ht ⟨fun w => by rw [eP] at w; omega, fun _ => ⟨fun _ => nxt, fun za => ?_⟩⟩
    have inner := zDown (W := fun b : Nat => zWp (d + 1) 150 25 [(2, 11), (2, t), (0, j), (0, x), (0, (a : Int)), (0, (b : Int))] [] (zTS c h) (zQ 2 R X)) a ?_ ?_ 0 (by omega)
    · exact inner
    · exact b_150_25 ht ⟨fun _ => nxt, fun w => by omega⟩
    · intro b hb ih2
      have nx2 : zWp (d + 1) 150 25 [(2, 11), (2, t), (0, j), (0, x), (0, (a : Int)), (0, w32 ((b : Int) + 1))] [] (zTS c h) (zQ 2 R X) := by
        rw [w32_s (by omega)]
        exact ih2
      refine b_150_25 ht ⟨fun w => by omega, fun _ => ⟨by omega, fun _ => nx2, fun w => ⟨by omega, by omega, by omega, by omega, fun _ => nx2, fun e => k1 ⟨a, b, by omega, by omega, za, ?_, ?_, e⟩⟩⟩⟩
      · have h2 := h25 a (by omega) (by omega)
        obtain ⟨m, hm⟩ := nat_of h2.1
        obtain ⟨y, hy⟩ := nat_of hx.1
        rw [hm, hy] at w
        rw [hy]
        exact (zTn0 m (by omega) y (by omega) b (by omega) w).2
      · have h2 := h25 a (by omega) (by omega)
        obtain ⟨m, hm⟩ := nat_of h2.1
        obtain ⟨y, hy⟩ := nat_of hx.1
        rw [hm, hy] at w
        rw [hm]
        exact (zTn0 m (by omega) y (by omega) b (by omega) w).1
