/-! bytes fed -/
theorem zAnd255 (x : Int) : zAnd x 255 = x % 256 := by
  unfold zAnd
  have e : ((Int32.ofInt x &&& Int32.ofInt 255).toBitVec) = BitVec.ofNat 32 ((Int32.ofInt x).toBitVec.toNat % 256) := by
    rw [Int32.toBitVec_and]
    apply BitVec.eq_of_toNat_eq
    rw [BitVec.toNat_and, show (Int32.ofInt 255).toBitVec.toNat = 2 ^ 8 - 1 from rfl, Nat.and_two_pow_sub_one_eq_mod, BitVec.toNat_ofNat]
    omega
  have : (Int32.ofInt x).toBitVec.toNat % 256 < 256 := Nat.mod_lt _ (by decide)
  rw [zn_toInt (by omega) e]
  have t : (Int32.ofInt x).toBitVec.toNat = (x % 4294967296).toNat := by
    simp
  rw [t]
  omega
/-- the k-th byte of five numbers -/
def fdX (x1 x2 x3 x4 x5 k : Int) : Int := if k < 4 then x1 else if k < 8 then x2 else if k < 12 then x3 else if k < 16 then x4 else x5
def fdB (x1 x2 x3 x4 x5 k : Int) : Int := zShr (fdX x1 x2 x3 x4 x5 k) (24 - 8 * (k % 4)) % 256
theorem s_16 {d c : Nat} {R : Int → Nat → zH → Prop} {X : Nat → Nat → zH → Prop} {h : zH} {x m : Int} (hm : h 2 5 = m) (h0 : 0 ≤ m) (h1 : m + 4 ≤ 600) (k : ∀ h', (∀ o j, ¬ (o = 2 ∧ j = 5) → ¬ (o = 3 ∧ m ≤ j ∧ j < m + 4) → h' o j = h o j) → h' 2 5 = m + 4 → (∀ i : Int, 0 ≤ i → i < 4 → h' 3 (m + i) = (zShr x (24 - 8 * i) + 128) % 256 - 128) → R 0 c h') : zCl d 16 [(2, 2), (0, x)] c h R X := by
  subst hm
  refine b_16 (b_16_3 ⟨fun w => by omega, fun _ => ⟨fun w => by omega, fun _ => ⟨by omega, ?_⟩⟩⟩)
  rw [show w32 (24 + -8) = 16 by decide, w32_e (x := h 2 5 + 1) (by omega) (by omega)]
  refine b_16_3 ⟨fun w => by omega, fun _ => ?_⟩
  rw [hw_eq (o := 2) ⟨rfl, rfl⟩, show w32 (16 + -8) = 8 by decide, w32_e (x := h 2 5 + 1 + 1) (by omega) (by omega)]
  refine ⟨fun w => by omega, fun _ => ⟨by omega, b_16_3 ⟨fun w => by omega, fun _ => ?_⟩⟩⟩
  rw [hw_eq (o := 2) ⟨rfl, rfl⟩, show w32 (8 + -8) = 0 by decide, w32_e (x := h 2 5 + 1 + 1 + 1) (by omega) (by omega)]
  refine ⟨fun w => by omega, fun _ => ⟨by omega, b_16_3 ⟨fun w => by omega, fun _ => ?_⟩⟩⟩
  rw [hw_eq (o := 2) ⟨rfl, rfl⟩, show w32 (0 + -8) = -8 by decide, w32_e (x := h 2 5 + 1 + 1 + 1 + 1) (by omega) (by omega)]
  refine ⟨fun w => by omega, fun _ => ⟨by omega, b_16_3 ⟨fun _ => ?_, fun w => by omega⟩⟩⟩
  refine k _ (fun o j u v => ?_) ?_ (fun i u v => ?_)
  · rw [hw_ne (by omega), hw_ne (by omega), hw_ne (by omega), hw_ne (by omega), hw_ne (by omega), hw_ne (by omega), hw_ne (by omega), hw_ne (by omega)]
  · rw [hw_eq ⟨rfl, rfl⟩]
    omega
  · have : i = 0 ∨ i = 1 ∨ i = 2 ∨ i = 3 := by omega
    rcases this with e | e | e | e <;> subst e
    · rw [hw_ne (by omega), hw_ne (by omega), hw_ne (by omega), hw_ne (by omega), hw_ne (by omega), hw_ne (by omega), hw_ne (by omega), hw_eq ⟨rfl, by omega⟩]
      rfl
    · rw [hw_ne (by omega), hw_ne (by omega), hw_ne (by omega), hw_ne (by omega), hw_ne (by omega), hw_eq ⟨rfl, by omega⟩]
      rfl
    · rw [hw_ne (by omega), hw_ne (by omega), hw_ne (by omega), hw_eq ⟨rfl, by omega⟩]
      rfl
    · rw [hw_ne (by omega), hw_eq ⟨rfl, by omega⟩]
      rfl
theorem fd_c {y : Int} : (y + 128) % 256 - 128 = (y % 256 + 128) % 256 - 128 := by omega
theorem s_14 {d c : Nat} {R : Int → Nat → zH → Prop} {X : Nat → Nat → zH → Prop} {h : zH} {x1 x2 x3 x4 x5 m : Int} (hm : h 2 5 = m) (h0 : 0 ≤ m ∧ m ≤ 600) (k0 : 580 < m → R (-1) c h) (k1 : m ≤ 580 → ∀ h', (∀ o j, ¬ (o = 2 ∧ j = 5) → ¬ (o = 3 ∧ m ≤ j) → h' o j = h o j) → h' 2 5 = m + 20 → (∀ i : Int, 0 ≤ i → i < 20 → h' 3 (m + i) = (fdB x1 x2 x3 x4 x5 i + 128) % 256 - 128) → R (m + 20) c h') : zCl (d + 1) 14 [(2, 1), (0, x1), (0, x2), (0, x3), (0, x4), (0, x5)] c h R X := by
  refine b_14 (b_15 ⟨fun w => ?_, fun w => ?_⟩)
  · rw [hm, w32_e (by omega) (by omega)] at w
    exact ⟨fun v => absurd rfl v, fun _ => k0 (by omega)⟩
  · rw [hm, w32_e (by omega) (by omega)] at w
    refine ⟨fun _ => ?_, fun v => absurd v (by decide)⟩
    refine s_16 hm h0.1 (by omega) (fun h1 f1 e1 g1 => ?_)
    refine s_16 e1 (by omega) (by omega) (fun h2 f2 e2 g2 => ?_)
    refine s_16 e2 (by omega) (by omega) (fun h3 f3 e3 g3 => ?_)
    refine s_16 e3 (by omega) (by omega) (fun h4 f4 e4 g4 => ?_)
    refine s_16 e4 (by omega) (by omega) (fun h5 f5 e5 g5 => ?_)
    rw [e5]
    have kk := k1 (by omega) h5 (fun o j u v => by rw [f5 o j u (by omega), f4 o j u (by omega), f3 o j u (by omega), f2 o j u (by omega), f1 o j u (by omega)]) (by omega) (fun i u v => ?_)
    · rw [show m + 20 = m + 4 + 4 + 4 + 4 + 4 by omega] at kk
      exact kk
    · unfold fdB fdX
      rw [← fd_c]
      by_cases w1 : i < 4
      · rw [if_pos w1, f5 _ _ (by omega) (by omega), f4 _ _ (by omega) (by omega), f3 _ _ (by omega) (by omega), f2 _ _ (by omega) (by omega), g1 i u w1, show i % 4 = i by omega]
      · rw [if_neg w1]
        by_cases w2 : i < 8
        · rw [if_pos w2, f5 _ _ (by omega) (by omega), f4 _ _ (by omega) (by omega), f3 _ _ (by omega) (by omega), show m + i = m + 4 + (i - 4) by omega, g2 (i - 4) (by omega) (by omega), show i % 4 = i - 4 by omega]
        · rw [if_neg w2]
          by_cases w3 : i < 12
          · rw [if_pos w3, f5 _ _ (by omega) (by omega), f4 _ _ (by omega) (by omega), show m + i = m + 4 + 4 + (i - 8) by omega, g3 (i - 8) (by omega) (by omega), show i % 4 = i - 8 by omega]
          · rw [if_neg w3]
            by_cases w4 : i < 16
            · rw [if_pos w4, f5 _ _ (by omega) (by omega), show m + i = m + 4 + 4 + 4 + (i - 12) by omega, g4 (i - 12) (by omega) (by omega), show i % 4 = i - 12 by omega]
            · rw [if_neg w4, show m + i = m + 4 + 4 + 4 + 4 + (i - 16) by omega, g5 (i - 16) (by omega) (by omega), show i % 4 = i - 16 by omega]
theorem s_219 {d c : Nat} {R : Int → Nat → zH → Prop} {X : Nat → Nat → zH → Prop} {h : zH} {x1 x2 x3 x4 x5 m : Int} (hm : h 113 2 = m) (h0 : 0 ≤ m ∧ m ≤ 600) (k0 : 580 < m → R (-1) c (hw h 113 0 0)) (k1 : m ≤ 580 → ∀ h', (∀ o j, ¬ (o = 113 ∧ (j = 0 ∨ j = 2)) → ¬ (o = 115 ∧ m ≤ j) → h' o j = h o j) → h' 113 0 = 0 → h' 113 2 = m + 20 → (∀ i : Int, 0 ≤ i → i < 20 → h' 115 (m + i) = fdB x1 x2 x3 x4 x5 i) → R (m + 20) c h') : zCl d 219 [(2, 113), (0, x1), (0, x2), (0, x3), (0, x4), (0, x5)] c h R X := by
  refine b_219 ⟨fun w => ?_, fun w => ?_⟩
  · rw [hm, w32_e (by omega) (by omega)] at w
    have main := zDown (W := fun n : Nat => ∀ h1 : zH, (∀ o j : Int, ¬ (o = 113 ∧ (j = 0 ∨ j = 2)) → ¬ (o = 115 ∧ m ≤ j) → h1 o j = h o j) → h1 113 0 = 0 → h1 113 2 = m + n → (∀ i : Int, 0 ≤ i → i < n → h1 115 (m + i) = fdB x1 x2 x3 x4 x5 i) → zWp d 219 23 [(2, 113), (0, x1), (0, x2), (0, x3), (0, x4), (0, x5), (0, (n : Int)), (9, 0)] [] (zTS c h1) (zQ 1 R X)) 20 ?_ ?_ 0 (by decide) (hw h 113 0 0) (fun o j u v => by rw [hw_ne (by omega)]) (hw_eq ⟨rfl, rfl⟩) (by rw [hw_ne (by omega), hm]; omega) (fun i u v => by omega)
    · exact main
    · intro h1 f1 e0 e2 g1
      refine b_219_23 ⟨fun _ => ?_, fun w => by omega⟩
      rw [e2]
      exact k1 (by omega) h1 f1 e0 e2 g1
    · intro n hn ih h1 f1 e0 e2 g1
      have tm : Int.tmod (n : Int) 4 = (n : Int) % 4 := Int.tmod_eq_emod_of_nonneg (by omega)
      have sh : w32 (24 - w32 (8 * Int.tmod (n : Int) 4)) = 24 - 8 * ((n : Int) % 4) := by
        rw [tm, w32_e (x := 8 * ((n : Int) % 4)) (by omega) (by omega), w32_e (by omega) (by omega)]
      have step : ∀ x, x = fdX x1 x2 x3 x4 x5 n → zWp d 219 23 [(2, 113), (0, x1), (0, x2), (0, x3), (0, x4), (0, x5), (0, w32 ((n : Int) + 1)), (9, 0)] [] (zTS c (hw (hw h1 115 (h1 113 2) (zAnd (zShr x (w32 (24 - (w32 (8 * (Int.tmod (n : Int) 4)))))) 255)) 113 2 (w32 ((h1 113 2) + 1)))) (zQ 1 R X) := by
        intro x hx
        rw [sh, zAnd255, e2, w32_e (x := m + n + 1) (by omega) (by omega), w32_s (by omega)]
        refine ih _ (fun o j u v => by rw [hw_ne (by omega), hw_ne (by omega), f1 o j u v]) (by rw [hw_ne (by omega), hw_ne (by omega)]; exact e0) (by rw [hw_eq ⟨rfl, rfl⟩]; omega) (fun i u v => ?_)
        rw [hw_ne (by omega)]
        by_cases y : i = n
        · rw [hw_eq ⟨rfl, by omega⟩, y]
          unfold fdB
          rw [hx]
        · rw [hw_ne (by omega)]
          exact g1 i u (by omega)
      have b1 : 0 ≤ h1 113 2 ∧ h1 113 2 < 600 := by omega
      refine b_219_23 ⟨fun w => by omega, fun _ => ⟨fun w1 => ⟨fun w2 => ⟨fun w3 => ⟨fun w4 => ⟨b1, step x5 ?_⟩, fun w4 => ⟨b1, step x4 ?_⟩⟩, fun w3 => ⟨b1, step x3 ?_⟩⟩, fun w2 => ⟨b1, step x2 ?_⟩⟩, fun w1 => ⟨b1, step x1 ?_⟩⟩⟩
      · unfold fdX
        rw [if_neg (by omega), if_neg (by omega), if_neg (by omega), if_neg (by omega)]
      · unfold fdX
        rw [if_neg (by omega), if_neg (by omega), if_neg (by omega), if_pos (by omega)]
      · unfold fdX
        rw [if_neg (by omega), if_neg (by omega), if_pos (by omega)]
      · unfold fdX
        rw [if_neg (by omega), if_pos (by omega)]
      · unfold fdX
        rw [if_pos (by omega)]
  · rw [hm, w32_e (by omega) (by omega)] at w
    exact k0 (by omega)
