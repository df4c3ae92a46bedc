/-! words -/
def wE (T : Int → Int) (n a : Int) : Int := run isS T n (nB T n a)
theorem nBW {T : Int → Int} {n a : Int} (h : a ≤ n) : a ≤ nB T n a ∧ nB T n a ≤ wE T n a ∧ wE T n a ≤ n := by
  have h1 := run_b (p := isB) (T := T) h
  have h2 := run_b (p := isS) (T := T) h1.2
  unfold wE nB
  omega
theorem wE_i {T : Int → Int} {n a : Int} (h : a ≤ n) : wE T n (nB T n a) = wE T n a := by
  unfold wE
  rw [nB_i h]
theorem s_68 {d c : Nat} {T : Int → Int} {n : Int} (wt : wTape T n) {R : Int → Nat → zH → Prop} {X : Nat → Nat → zH → Prop} {h : zH} (ct : cTape h T n) (ha : 0 ≤ h 2 2 ∧ h 2 2 ≤ n) (k : ∀ h', (∀ o j, ¬ cTs o j → h' o j = h o j) → h' 2 2 = wE T n (h 2 2) → h' 2 3 = nB T n (h 2 2) → h' 2 4 = h 2 4 → h' 2 6 = h 2 6 → R 0 c h') : zCl (d + 1) 68 [(2, 2)] c h R X := by
  have hbe := nBW (T := T) ha.2
  have w1 := wt.1
  refine b_68 (s_66 wt ct ha (fun h1 f1 e2 => ?_))
  have eB : h1 2 2 = nB T n (h 2 2) := e2
  rw [eB]
  have loop : ∀ (m : Nat) (h2 : zH), n - h2 2 2 = m → (∀ o j, ¬ (o = 2 ∧ j = 2) → h2 o j = (hw h1 2 3 (nB T n (h 2 2))) o j) → 0 ≤ h2 2 2 → run isS T n (h2 2 2) = wE T n (h 2 2) → zWp (d + 1) 68 13 [(2, 2)] [] (zTS c h2) (zQ 0 R X) := by
    have fin : ∀ h2 : zH, (∀ o j, ¬ (o = 2 ∧ j = 2) → h2 o j = (hw h1 2 3 (nB T n (h 2 2))) o j) → h2 2 2 = wE T n (h 2 2) → R 0 c h2 := by
      intro h2 fr e
      refine k h2 (fun o j q => ?_) e ?_ ?_ ?_
      · have := cTs2 q
        rw [fr o j (by omega), hw_ne (by omega), f1 o j (by omega)]
      · rw [fr _ _ (by omega), hw_eq ⟨rfl, rfl⟩]
      · rw [fr _ _ (by omega), hw_ne (by omega), f1 _ _ (by omega)]
      · rw [fr _ _ (by omega), hw_ne (by omega), f1 _ _ (by omega)]
    intro m
    induction m with
    | zero =>
      intro h2 hm fr h0 he
      have e1 : h2 2 1 = n := by rw [fr _ _ (by omega), hw_ne (by omega), f1 _ _ (by omega), ct.1]
      have en : run isS T n (h2 2 2) = n := run_n (by omega)
      exact b_68_13 ⟨fun _ => fin h2 fr (by omega), fun q => by omega⟩
    | succ m ih =>
      intro h2 hm fr h0 he
      have e1 : h2 2 1 = n := by rw [fr _ _ (by omega), hw_ne (by omega), f1 _ _ (by omega), ct.1]
      have w2 := wt.2 (h2 2 2) h0 (by omega)
      have e3 : h2 3 (h2 2 2) = (T (h2 2 2) + 128) % 256 - 128 := by rw [fr _ _ (by omega), hw_ne (by omega), f1 _ _ (by omega), ct.2 _ h0 (by omega)]
      have el := run_lt (p := isS) (T := T) (n := n) (a := h2 2 2) (by omega)
      have stop : ¬ isS (T (h2 2 2)) = true → R 0 c h2 := fun q => fin h2 fr (by rw [if_neg q] at el; omega)
      refine b_68_13 ⟨fun q => by omega, fun _ => ⟨by omega, fun q => stop (fun v => by have := isS_t.mp v; omega), fun q => ⟨by omega, fun q1 => stop (fun v => by have := isS_t.mp v; omega), fun q1 => ?_⟩⟩⟩
      have y : isS (T (h2 2 2)) = true := isS_t.mpr (by omega)
      rw [if_pos y] at el
      rw [w32_e (by omega) (by omega)]
      refine ih _ ?_ (fun o j v => by rw [hw_ne (by omega), fr o j v]) ?_ ?_
      · rw [hw_eq ⟨rfl, rfl⟩]
        omega
      · rw [hw_eq ⟨rfl, rfl⟩]
        omega
      · rw [hw_eq ⟨rfl, rfl⟩, ← el, he]
  refine loop (n - nB T n (h 2 2)).toNat _ ?_ (fun _ _ _ => rfl) ?_ ?_
  · rw [hw_ne (by omega), eB]
    omega
  · rw [hw_ne (by omega), eB]
    omega
  · rw [hw_ne (by omega), eB]
    rfl
theorem s_234 {d c : Nat} {T : Int → Int} {n : Int} (wt : wTape T n) {R : Int → Nat → zH → Prop} {X : Nat → Nat → zH → Prop} {h : zH} (mt : mTape h T n) (ha : 0 ≤ h 113 4 ∧ h 113 4 ≤ n) (k : ∀ h', (∀ o j, ¬ (o = 113 ∧ j = 4) → h' o j = h o j) → h' 113 4 = run isS T n (h 113 4) → R 0 c h') : zCl (d + 1) 234 [(2, 113)] c h R X := by
  have w1 := wt.1
  have loop : ∀ (m : Nat) (h2 : zH), n - h2 113 4 = m → (∀ o j, ¬ (o = 113 ∧ j = 4) → h2 o j = h o j) → 0 ≤ h2 113 4 → run isS T n (h2 113 4) = run isS T n (h 113 4) → zWp (d + 1) 234 0 [(2, 113)] [] (zTS c h2) (zQ 0 R X) := by
    intro m
    induction m with
    | zero =>
      intro h2 hm fr h0 he
      have e1 : h2 113 3 = n := by rw [fr _ _ (by omega), mt.1]
      have en : run isS T n (h2 113 4) = n := run_n (by omega)
      exact b_234_0 ⟨fun _ => k h2 fr (by omega), fun q => by omega⟩
    | succ m ih =>
      intro h2 hm fr h0 he
      have e1 : h2 113 3 = n := by rw [fr _ _ (by omega), mt.1]
      have e3 : h2 115 (h2 113 4) = T (h2 113 4) := by rw [fr _ _ (by omega), mt.2 _ h0 (by omega)]
      have el := run_lt (p := isS) (T := T) (n := n) (a := h2 113 4) (by omega)
      have stop : ¬ isS (T (h2 113 4)) = true → R 0 c h2 := fun q => k h2 fr (by rw [if_neg q] at el; omega)
      refine b_234_0 ⟨fun q => by omega, fun _ => ⟨by omega, ?_⟩⟩
      rw [e3]
      refine b_228 ⟨fun q => ⟨fun _ => stop (fun v => by have := isS_t.mp v; omega), fun v => absurd rfl v⟩, fun q => ⟨fun q1 => ⟨fun _ => stop (fun v => by have := isS_t.mp v; omega), fun v => absurd rfl v⟩, fun q1 => ⟨fun v => absurd v (by decide), fun _ => ?_⟩⟩⟩
      have y : isS (T (h2 113 4)) = true := isS_t.mpr (by omega)
      rw [if_pos y] at el
      rw [w32_e (by omega) (by omega)]
      refine ih _ ?_ (fun o j v => by rw [hw_ne (by omega), fr o j v]) ?_ ?_
      · rw [hw_eq ⟨rfl, rfl⟩]
        omega
      · rw [hw_eq ⟨rfl, rfl⟩]
        omega
      · rw [hw_eq ⟨rfl, rfl⟩, ← el, he]
  exact loop (n - h 113 4).toNat h (by omega) (fun _ _ _ => rfl) ha.1 rfl
/-- letters as a number of base 32 -/
def hA (T : Int → Int) (b : Int) : Nat → Int
  | 0 => 0
  | k + 1 => 32 * hA T b k + (T (b + k) - 96)
theorem hA_r {T : Int → Int} {b : Int} : ∀ k : Nat, k ≤ 6 → (∀ j : Int, b ≤ j → j < b + k → 97 ≤ T j ∧ T j ≤ 122) → 0 ≤ hA T b k ∧ hA T b k < 32 ^ k ∧ (1 ≤ k → 1 ≤ hA T b k)
  | 0, _, _ => by
    rw [hA]
    decide
  | k + 1, hk, h => by
    have h1 := hA_r (T := T) (b := b) k (by omega) (fun j a c => h j a (by omega))
    have h2 := h (b + k) (by omega) (by omega)
    rw [hA]
    have e : (32 : Int) ^ (k + 1) = 32 * 32 ^ k := by rw [Int.pow_succ, Int.mul_comm]
    omega
theorem hA_inj {T U : Int → Int} {b e : Int} : ∀ (m k : Nat), (∀ j : Int, b ≤ j → j < b + k → 97 ≤ T j ∧ T j ≤ 122) → (∀ j : Int, e ≤ j → j < e + m → 97 ≤ U j ∧ U j ≤ 122) → (hA T b k = hA U e m ↔ (k = m ∧ ∀ i : Nat, i < m → T (b + i) = U (e + i)))
  | 0, 0, _, _ => ⟨fun _ => ⟨rfl, fun i hi => by omega⟩, fun _ => rfl⟩
  | 0, k + 1, h, _ => by
    have h2 := h (b + k) (by omega) (by omega)
    have pos : 0 ≤ hA T b k := by
      have : ∀ i : Nat, i ≤ k → 0 ≤ hA T b i := by
        intro i
        induction i with
        | zero =>
          intro _
          rw [hA]
          decide
        | succ i ih =>
          intro hi
          have := ih (by omega)
          have := h (b + i) (by omega) (by omega)
          rw [hA]
          omega
      exact this k (Nat.le_refl _)
    rw [hA, hA]
    exact ⟨fun w => by omega, fun w => by omega⟩
  | m + 1, 0, _, h => by
    have h2 := h (e + m) (by omega) (by omega)
    have pos : 0 ≤ hA U e m := by
      have : ∀ i : Nat, i ≤ m → 0 ≤ hA U e i := by
        intro i
        induction i with
        | zero =>
          intro _
          rw [hA]
          decide
        | succ i ih =>
          intro hi
          have := ih (by omega)
          have := h (e + i) (by omega) (by omega)
          rw [hA]
          omega
      exact this m (Nat.le_refl _)
    rw [hA, hA]
    exact ⟨fun w => by omega, fun w => by omega⟩
  | m + 1, k + 1, h, g => by
    have ih := hA_inj (T := T) (U := U) (b := b) (e := e) m k (fun j a c => h j a (by omega)) (fun j a c => g j a (by omega))
    have h2 := h (b + k) (by omega) (by omega)
    have g2 := g (e + m) (by omega) (by omega)
    rw [hA, hA]
    constructor
    · intro w
      have e1 : hA T b k = hA U e m := by omega
      obtain ⟨a1, a2⟩ := ih.mp e1
      subst a1
      refine ⟨rfl, fun i hi => ?_⟩
      by_cases q : i = k
      · subst q
        omega
      · exact a2 i (by omega)
    · rintro ⟨a1, a2⟩
      have a1 : k = m := by omega
      subst a1
      have e1 := ih.mpr ⟨rfl, fun i hi => a2 i (by omega)⟩
      have e2 := a2 k (by omega)
      omega
/-- a word's number: 0 if it is longer than 6, or empty -/
def wH (T : Int → Int) (b e : Int) : Int := if e - b ≤ 6 then hA T b (e - b).toNat else 0
def wC (j : Int) : Int := hA (zTc j) 0 (zTl j).toNat
theorem zShl5 {v : Int} (h0 : 0 ≤ v) (h1 : v < 33554432) : zShl v 5 = v * 32 := by
  obtain ⟨m, rfl⟩ : ∃ m : Nat, v = m := ⟨v.toNat, by omega⟩
  unfold zShl
  have : (Int32.ofInt (m : Int) <<< (Int32.ofInt 5 &&& 31)).toInt = ((m * 32 : Nat) : Int) := by
    apply zn_toInt
    · omega
    · rw [Int32.toBitVec_shiftLeft, show ((Int32.ofInt 5 &&& 31).toBitVec.smod 32) = BitVec.ofNat 32 5 from zk_sh 5 (by decide), zn_bv]
      apply BitVec.eq_of_toNat_eq
      simp
      omega
  rw [this]
  omega
theorem zOr5 {v d : Int} (h0 : 0 ≤ v) (h1 : v < 33554432) (d0 : 0 ≤ d) (d1 : d < 32) : zOr (zShl v 5) d = 32 * v + d := by
  rw [zShl5 h0 h1, zOr_I (by omega) (by omega) d0 (by omega)]
  have e : (v * 32).toNat = 2 ^ 5 * v.toNat := by omega
  rw [e, ← Nat.two_pow_add_eq_or_of_lt (show d.toNat < 2 ^ 5 by omega)]
  omega
