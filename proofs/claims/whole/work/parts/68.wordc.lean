/-! words: comparing -/
theorem zTc_all : ∀ s ∈ zStr, ∀ x ∈ s, (0 : Int) ≤ x ∧ x < 128 := by decide +kernel
theorem zTc_r (j i : Int) : 0 ≤ zTc j i ∧ zTc j i < 128 := by
  unfold zTc
  by_cases hj : j.toNat < zStr.length
  · have m1 : zStr.getD j.toNat [] ∈ zStr := by
      rw [List.getD_eq_getElem?_getD, List.getElem?_eq_getElem hj]
      exact List.getElem_mem hj
    generalize zStr.getD j.toNat [] = s at m1
    by_cases hi : i.toNat < s.length
    · have m2 : s.getD i.toNat 0 ∈ s := by
        rw [List.getD_eq_getElem?_getD, List.getElem?_eq_getElem hi]
        exact List.getElem_mem hi
      exact zTc_all s m1 _ m2
    · rw [List.getD_eq_getElem?_getD, List.getElem?_eq_none (by omega)]
      decide
  · rw [List.getD_eq_getElem?_getD (l := zStr), List.getElem?_eq_none (by omega)]
    simp
/-- the words that are compared by their numbers -/
def wOk (j : Int) : Prop := (0 ≤ j ∧ j.toNat < zStr.length) ∧ (1 ≤ zTl j ∧ zTl j ≤ 6) ∧ ∀ i : Int, 0 ≤ i → i < zTl j → 97 ≤ zTc j i ∧ zTc j i ≤ 122
theorem wOk_d : ∀ j : Nat, j < 42 → ((j = 0 ∨ j = 15 ∨ j = 21 ∨ j = 22 ∨ j = 37) ∨ ((1 ≤ zTl j ∧ zTl j ≤ 6) ∧ ∀ i : Nat, i < 6 → ((i : Int) < zTl j → (97 ≤ zTc j i ∧ zTc j i ≤ 122)))) := by decide +kernel
theorem wOk_j {j : Int} (h0 : 0 ≤ j) (h1 : j < 42) (h2 : j ≠ 0 ∧ j ≠ 15 ∧ j ≠ 21 ∧ j ≠ 22 ∧ j ≠ 37) : wOk j := by
  obtain ⟨m, rfl⟩ : ∃ m : Nat, j = m := ⟨j.toNat, by omega⟩
  have h := (wOk_d m (by omega)).resolve_left (by omega)
  refine ⟨⟨h0, ?_⟩, h.1, fun i i0 i1 => ?_⟩
  · have : zStr.length = 42 := rfl
    omega
  · have := h.2 i.toNat (by omega) (by omega)
    rw [Int.toNat_of_nonneg i0] at this
    exact this
theorem wH_is {T : Int → Int} {b e j : Int} (w : wOk j) (hbe : b ≤ e) (hl : ∀ i : Int, b ≤ i → i < e → 97 ≤ T i ∧ T i ≤ 122) : wH T b e = wC j ↔ (zTl j = e - b ∧ ∀ i : Int, 0 ≤ i → i < zTl j → T (b + i) = zTc j i) := by
  obtain ⟨w1, w2, w3⟩ := w
  have cpos : 1 ≤ wC j := (hA_r (T := zTc j) (b := 0) (zTl j).toNat (by omega) (fun i a c => w3 i a (by omega))).2.2 (by omega)
  unfold wH
  by_cases q : e - b ≤ 6
  · rw [if_pos q]
    unfold wC
    rw [hA_inj (zTl j).toNat (e - b).toNat (fun i a c => hl i a (by omega)) (fun i a c => w3 i a (by omega))]
    constructor
    · rintro ⟨a1, a2⟩
      refine ⟨by omega, fun i i0 i1 => ?_⟩
      have := a2 i.toNat (by omega)
      rw [Int.toNat_of_nonneg i0, show (0 : Int) + i = i by omega] at this
      exact this
    · rintro ⟨a1, a2⟩
      refine ⟨by omega, fun i hi => ?_⟩
      have := a2 i (by omega) (by omega)
      rw [show (0 : Int) + (i : Int) = i by omega]
      exact this
  · rw [if_neg q]
    exact ⟨fun v => by omega, fun v => by omega⟩
theorem s_70 {d c : Nat} {T : Int → Int} {n : Int} (wt : wTape T n) {R : Int → Nat → zH → Prop} {X : Nat → Nat → zH → Prop} {h : zH} {j b e : Int} (hj : 0 ≤ j ∧ j.toNat < zStr.length) (ct : cTape h T n) (h3 : h 2 3 = b) (h2 : h 2 2 = e) (hbe : 0 ≤ b ∧ b ≤ e ∧ e ≤ n) (k1 : (zTl j = e - b ∧ ∀ i : Int, 0 ≤ i → i < zTl j → T (b + i) = zTc j i) → R 1 c h) (k0 : ¬ (zTl j = e - b ∧ ∀ i : Int, 0 ≤ i → i < zTl j → T (b + i) = zTc j i) → R 0 c h) : zCl d 70 [(2, 2), (5, j)] c h R X := by
  have w1 := wt.1
  refine b_70 ?_
  rw [h2, h3, w32_e (by omega) (by omega)]
  refine ⟨hj, fun q => ?_, fun q => k0 (fun v => q v.1)⟩
  have h0 : 0 ≤ zTl j := by
    unfold zTl
    omega
  refine zDown (W := fun m => (∀ i : Int, 0 ≤ i → i < (m : Int) → T (b + i) = zTc j i) → zWp d 70 20 [(2, 2), (5, j), (0, (m : Int))] [] (zTS c h) (zQ 2 R X)) (zTl j).toNat ?_ ?_ 0 (Nat.zero_le _) (fun i a c => by omega)
  · intro hm
    exact b_70_20 ⟨hj, fun _ => k1 ⟨q, fun i a c => hm i a (by omega)⟩, fun v => by omega⟩
  · intro m hm ih hi
    have tr := wt.2 (b + m) (by omega) (by omega)
    have cr := zTc_r j m
    have e3 : h 3 (b + m) = (T (b + m) + 128) % 256 - 128 := ct.2 _ (by omega) (by omega)
    refine b_70_20 ?_
    rw [h3, w32_e (x := b + (m : Int)) (by omega) (by omega), w32_s (by omega), e3]
    refine ⟨hj, fun v => by omega, fun _ => ⟨by omega, hj, by omega, fun v => ih (fun i a c => ?_), fun v => k0 (fun u => v ?_)⟩⟩
    · by_cases ei : i = m
      · rw [ei]
        omega
      · exact hi i a (by omega)
    · have := u.2 m (by omega) (by omega)
      omega
theorem s_70h {d c : Nat} {T : Int → Int} {n : Int} (wt : wTape T n) {R : Int → Nat → zH → Prop} {X : Nat → Nat → zH → Prop} {h : zH} {j b e : Int} (w : wOk j) (ct : cTape h T n) (h3 : h 2 3 = b) (h2 : h 2 2 = e) (hbe : 0 ≤ b ∧ b ≤ e ∧ e ≤ n) (hl : ∀ i : Int, b ≤ i → i < e → 97 ≤ T i ∧ T i ≤ 122) (k1 : wH T b e = wC j → R 1 c h) (k0 : wH T b e ≠ wC j → R 0 c h) : zCl d 70 [(2, 2), (5, j)] c h R X :=
  s_70 wt w.1 ct h3 h2 hbe (fun q => k1 ((wH_is w hbe.2.1 hl).mpr q)) (fun q => k0 (fun v => q ((wH_is w hbe.2.1 hl).mp v)))
theorem s_230 {d c : Nat} {h : zH} {R : Int → Nat → zH → Prop} {X : Nat → Nat → zH → Prop} {j : Int} (w : wOk j) (k : R (wC j) c h) : zCl d 230 [(5, j)] c h R X := by
  obtain ⟨w1, w2, w3⟩ := w
  refine b_230 ?_
  refine zDown (W := fun m => zWp d 230 4 [(5, j), (0, hA (zTc j) 0 m), (0, (m : Int))] [] (zTS c h) (zQ 1 R X)) (zTl j).toNat ?_ ?_ 0 (Nat.zero_le _)
  · exact b_230_4 ⟨w1, fun _ => k, fun v => by omega⟩
  · intro m hm ih
    have hr := hA_r (T := zTc j) (b := 0) m (by omega) (fun i a c => w3 i a (by omega))
    have hp : (32 : Int) ^ m ≤ 32 ^ 5 := by
      have h1 : (32 : Nat) ^ m ≤ 32 ^ 5 := Nat.pow_le_pow_right (by decide) (by omega)
      have h2 : ((32 ^ m : Nat) : Int) ≤ ((32 ^ 5 : Nat) : Int) := by omega
      rw [Int.natCast_pow, Int.natCast_pow] at h2
      exact h2
    have h5 : (32 : Int) ^ 5 = 33554432 := by decide
    have cr := w3 m (by omega) (by omega)
    refine b_230_4 ⟨w1, fun v => by omega, fun _ => ⟨w1, by omega, ?_⟩⟩
    rw [w32_e (x := zTc j m - 96) (by omega) (by omega), w32_s (by omega), zOr5 hr.1 (by omega) (by omega) (by omega)]
    rw [hA, show (0 : Int) + (m : Int) = m by omega] at ih
    exact ih
theorem s_227 {d c : Nat} {T : Int → Int} {n : Int} (wt : wTape T n) {R : Int → Nat → zH → Prop} {X : Nat → Nat → zH → Prop} {h : zH} (mt : mTape h T n) (ha : 0 ≤ h 113 4 ∧ h 113 4 ≤ n) (k : ∀ h', (∀ o j, ¬ (o = 113 ∧ j = 4) → h' o j = h o j) → h' 113 4 = nB T n (h 113 4) → R (wH T (nB T n (h 113 4)) (wE T n (h 113 4))) c h') : zCl (d + 1) 227 [(2, 113)] c h R X := by
  have w1 := wt.1
  have hbe := nBW (T := T) ha.2
  refine b_227 (s_226 wt mt ha (fun h1 f1 e4 => ?_))
  have eB : h1 113 4 = nB T n (h 113 4) := e4
  have eW : run isS T n (nB T n (h 113 4)) = wE T n (h 113 4) := rfl
  have kk := k h1 f1 eB
  rw [eB]
  generalize nB T n (h 113 4) = b at *
  have e3 : h1 113 3 = n := by rw [f1 _ _ (by omega), mt.1]
  have fin : ∀ i : Nat, wE T n (h 113 4) = b + i → ((i : Int) ≤ 6 → R (if i ≤ 6 then hA T b i else 0) c h1) ∧ (6 < (i : Int) → R 0 c h1) := by
    intro i ei
    unfold wH at kk
    rw [ei, show (b + (i : Int) - b).toNat = i by omega, show b + (i : Int) - b = i by omega] at kk
    refine ⟨fun q => ?_, fun q => ?_⟩
    · rw [if_pos q] at kk
      rw [if_pos (by omega)]
      exact kk
    · rw [if_neg (by omega)] at kk
      exact kk
  have loop : ∀ (m i : Nat), n - (b + i) = m → run isS T n (b + i) = wE T n (h 113 4) → (∀ j : Int, b ≤ j → j < b + i → 97 ≤ T j ∧ T j ≤ 122) → zWp (d + 1) 227 14 [(2, 113), (0, if i ≤ 6 then hA T b i else 0), (0, (i : Int)), (0, b + (i : Int))] [] (zTS c h1) (zQ 1 R X) := by
    intro m
    induction m with
    | zero =>
      intro i hm er dg
      have en : run isS T n (b + i) = n := run_n (by omega)
      exact b_227_14 ⟨fun _ => fin i (by omega), fun q => by omega⟩
    | succ m ih =>
      intro i hm er dg
      have el := run_lt (p := isS) (T := T) (n := n) (a := b + i) (by omega)
      have et : h1 115 (b + i) = T (b + i) := by rw [f1 _ _ (by omega), mt.2 _ (by omega) (by omega)]
      have stop : ¬ isS (T (b + i)) = true → ((i : Int) ≤ 6 → R (if i ≤ 6 then hA T b i else 0) c h1) ∧ (6 < (i : Int) → R 0 c h1) := fun q => fin i (by rw [if_neg q] at el; omega)
      refine b_227_14 ⟨fun q => by omega, fun _ => ⟨by omega, ?_⟩⟩
      rw [et]
      refine b_228 ⟨fun q => ⟨fun _ => stop (fun v => by have := isS_t.mp v; omega), fun v => absurd rfl v⟩, fun q => ⟨fun q1 => ⟨fun _ => stop (fun v => by have := isS_t.mp v; omega), fun v => absurd rfl v⟩, fun q1 => ⟨fun v => absurd v (by decide), fun _ => ?_⟩⟩⟩
      have y : isS (T (b + i)) = true := isS_t.mpr (by omega)
      rw [if_pos y] at el
      have nx := ih (i + 1) (by omega) (by rw [show b + ((i + 1 : Nat) : Int) = b + i + 1 by omega, ← el, er]) (fun j a c => by
        by_cases ej : j = b + i
        · rw [ej]
          exact isS_t.mp y
        · exact dg j a (by omega))
      rw [w32_s (by omega), w32_e (x := b + (i : Int) + 1) (by omega) (by omega)]
      rw [show b + ((i + 1 : Nat) : Int) = b + i + 1 by omega] at nx
      refine ⟨fun q2 => ?_, fun q2 => ⟨by omega, ?_⟩⟩
      · rw [if_neg (by omega)] at nx
        exact nx
      · have hr := hA_r (T := T) (b := b) i (by omega) dg
        have hp : (32 : Int) ^ i ≤ 32 ^ 5 := by
          have h1 : (32 : Nat) ^ i ≤ 32 ^ 5 := Nat.pow_le_pow_right (by decide) (by omega)
          have h2 : ((32 ^ i : Nat) : Int) ≤ ((32 ^ 5 : Nat) : Int) := by omega
          rw [Int.natCast_pow, Int.natCast_pow] at h2
          exact h2
        have h5 : (32 : Int) ^ 5 = 33554432 := by decide
        rw [if_pos (by omega), hA] at nx
        rw [et, if_pos (by omega), w32_e (x := T (b + i) - 96) (by omega) (by omega), zOr5 hr.1 (by omega) (by omega) (by omega)]
        exact nx
  have := loop (n - b).toNat 0 (by omega) (by rw [show b + ((0 : Nat) : Int) = b by omega]; exact eW) (fun j a c => by omega)
  rw [show b + ((0 : Nat) : Int) = b by omega] at this
  exact this
