/-! how crooked a row is -/
def vK (row : Int) : Nat → Int
  | 0 => row
  | k + 1 => vK row k / 10
def mDg (row : Int) (k : Nat) : Int := vK row k % 10
def mGn (row : Int) : Nat → Int
  | 0 => 0
  | k + 1 => zOr (mGn row k) (zShl 1 (mDg row k))
def mCs (n row : Int) : Nat → Int
  | 0 => 0
  | k + 1 => mCs n row k + if 0 < vK row (k + 1) then mLck n (mDg row k) (mDg row (k + 1)) else 0
def nD (row : Int) : Nat := if 99999 < row then 6 else if 9999 < row then 5 else if 999 < row then 4 else 3
def mCv (row : Int) : Prop := (100 ≤ row ∧ row ≤ 999999) ∧ ∀ j : Nat, j < nD row → 1 ≤ mDg row j ∧ mDg row j ≤ nD row ∧ zb (mGn row j) (mDg row j) = 0
theorem mDg_r (row : Int) (k : Nat) : 0 ≤ mDg row k ∧ mDg row k ≤ 9 := by
  unfold mDg
  omega
theorem vK_r {row : Int} (h : 0 ≤ row ∧ row ≤ 999999) : ∀ k : Nat, 0 ≤ vK row k ∧ vK row k ≤ 999999
  | 0 => h
  | k + 1 => by
    have := vK_r h k
    rw [vK]
    omega
theorem mGn_r (row : Int) : ∀ k : Nat, 0 ≤ mGn row k ∧ mGn row k < 2 ^ 10
  | 0 => by
    rw [mGn]
    decide
  | k + 1 => by
    have h1 := mGn_r row k
    have h2 := mDg_r row k
    rw [mGn]
    exact zOr_r (by decide) h1.1 h1.2 h2.1 (by omega)
theorem mCs_r {n row : Int} (hn : 3 ≤ n ∧ n ≤ 6) : ∀ k : Nat, 0 ≤ mCs n row k ∧ mCs n row k ≤ 20 * k
  | 0 => by
    rw [mCs]
    omega
  | k + 1 => by
    have h1 := mCs_r (row := row) hn k
    have h2 := mLck_r hn (mDg_r row k) (mDg_r row (k + 1))
    rw [mCs]
    split <;> omega
theorem mGn_up {row : Int} {n : Nat} (hn : n ≤ 9) : ∀ {k : Nat}, (∀ j : Nat, j < k → mDg row j ≤ n) → 0 ≤ mGn row k ∧ mGn row k < 2 ^ (n + 1)
  | 0, _ => by
    rw [mGn]
    have : (0 : Int) < 2 ^ (n + 1) := Int.pow_pos (by decide)
    exact ⟨by decide, this⟩
  | k + 1, h => by
    have h1 := mGn_up (row := row) hn (k := k) (fun j hj => h j (by omega))
    have h2 := mDg_r row k
    have h3 := h k (by omega)
    rw [mGn]
    exact zOr_r (by omega) h1.1 h1.2 h2.1 (by omega)
theorem ones_up : ∀ G : Nat, G < 128 → ∀ d : Nat, d < 7 → zb G d = 0 → mOnes (zOr G (zShl 1 d)) = mOnes G + 1 := by decide +kernel
theorem ones_all : ∀ G : Nat, G < 128 → ∀ n : Nat, n < 7 → mOnes G = n → G < 2 ^ (n + 1) → zb G 0 = 0 → (G : Int) = zShl 1 ((n : Int) + 1) - 2 := by decide +kernel
theorem nD_r (row : Int) : 3 ≤ nD row ∧ nD row ≤ 6 := by
  unfold nD
  repeat' split
  all_goals omega
theorem vK_u (row : Int) : vK row 0 = row ∧ vK row 1 = row / 10 ∧ vK row 2 = row / 10 / 10 ∧ vK row 3 = row / 10 / 10 / 10 ∧ vK row 4 = row / 10 / 10 / 10 / 10 ∧ vK row 5 = row / 10 / 10 / 10 / 10 / 10 ∧ vK row 6 = row / 10 / 10 / 10 / 10 / 10 / 10 := ⟨rfl, rfl, rfl, rfl, rfl, rfl, rfl⟩
theorem vK_n {row : Int} (h : 100 ≤ row ∧ row ≤ 999999) : vK row (nD row) = 0 ∧ ∀ k : Nat, k < nD row → 0 < vK row k := by
  obtain ⟨u0, u1, u2, u3, u4, u5, u6⟩ := vK_u row
  have d3 : nD row = 3 ∨ nD row = 4 ∨ nD row = 5 ∨ nD row = 6 := by
    have := nD_r row
    omega
  rcases d3 with e | e | e | e
  all_goals
    have e' := e
    unfold nD at e'
    rw [e]
    refine ⟨?_, fun k hk => ?_⟩
    · first | rw [u3] | rw [u4] | rw [u5] | rw [u6]
      repeat' split at e'
      all_goals omega
    · have : k = 0 ∨ k = 1 ∨ k = 2 ∨ k = 3 ∨ k = 4 ∨ k = 5 := by omega
      rcases this with q | q | q | q | q | q <;> subst q
      all_goals first | omega | (first | rw [u0] | rw [u1] | rw [u2] | rw [u3] | rw [u4] | rw [u5]); (repeat' split at e') <;> omega
theorem nD_of {row : Int} {k : Nat} (h : 0 < row ∧ row ≤ 999999) (hk : 3 ≤ k ∧ k ≤ 6) (h0 : vK row k ≤ 0) (h1 : 0 < vK row (k - 1)) : 100 ≤ row ∧ nD row = k := by
  obtain ⟨u0, u1, u2, u3, u4, u5, u6⟩ := vK_u row
  rcases (by omega : k = 3 ∨ k = 4 ∨ k = 5 ∨ k = 6) with e | e | e | e <;> subst e
  · rw [u3] at h0
    rw [show 3 - 1 = 2 from rfl, u2] at h1
    unfold nD
    refine ⟨by omega, ?_⟩
    repeat' split
    all_goals omega
  · rw [u4] at h0
    rw [show 4 - 1 = 3 from rfl, u3] at h1
    unfold nD
    refine ⟨by omega, ?_⟩
    repeat' split
    all_goals omega
  · rw [u5] at h0
    rw [show 5 - 1 = 4 from rfl, u4] at h1
    unfold nD
    refine ⟨by omega, ?_⟩
    repeat' split
    all_goals omega
  · rw [u6] at h0
    rw [show 6 - 1 = 5 from rfl, u5] at h1
    unfold nD
    refine ⟨by omega, ?_⟩
    repeat' split
    all_goals omega
theorem tm10 {row : Int} (h : 0 ≤ row ∧ row ≤ 999999) (k : Nat) : Int.tmod (vK row k) 10 = mDg row k ∧ w32 (Int.tdiv (vK row k) 10) = vK row (k + 1) := by
  have h1 := vK_r h k
  rw [Int.tmod_eq_emod_of_nonneg h1.1, Int.tdiv_eq_ediv_of_nonneg h1.1, w32_e (by omega) (by omega)]
  exact ⟨rfl, rfl⟩
theorem s_184 {d c : Nat} {h : zH} {R : Int → Nat → zH → Prop} {X : Nat → Nat → zH → Prop} {row : Int} (k1 : mCv row → R (mCs (nD row) row (nD row)) c h) (k0 : ¬ mCv row → R (-1) c h) : zCl (d + 1) 184 [(0, row)] c h R X := by
  have main : 100 ≤ row → row ≤ 999999 → ∀ n : Nat, n = nD row → zWp (d + 1) 184 59 [(0, row), (0, (n : Int)), (0, 0), (0, 0), (0, row), (0, 0), (9, 0)] [] (zTS c h) (zQ 1 R X) := by
    intro r1 r2 n hn
    have h6 := nD_r row
    have hv := vK_n ⟨r1, r2⟩
    rw [← hn] at k1 h6 hv
    have hcv : mCv row ↔ ∀ j : Nat, j < n → 1 ≤ mDg row j ∧ mDg row j ≤ n ∧ zb (mGn row j) (mDg row j) = 0 := by
      unfold mCv
      rw [← hn]
      exact ⟨fun w => w.2, fun w => ⟨⟨r1, r2⟩, w⟩⟩
    refine zDown (W := fun k => (∀ j : Nat, j < k → 1 ≤ mDg row j ∧ mDg row j ≤ n ∧ zb (mGn row j) (mDg row j) = 0) → zWp (d + 1) 184 59 [(0, row), (0, (n : Int)), (0, mGn row k), (0, mCs n row k), (0, vK row k), (0, (k : Int)), (9, 0)] [] (zTS c h) (zQ 1 R X)) n ?_ ?_ 0 (Nat.zero_le _) (fun j hj => by omega)
    · intro hj
      exact b_184_59 ⟨fun _ => k1 (hcv.mpr hj), fun q => by omega⟩
    · intro k hk ih hj
      obtain ⟨t1, t2⟩ := tm10 (row := row) (by omega) k
      obtain ⟨t3, t4⟩ := tm10 (row := row) (by omega) (k + 1)
      have hs := mCs_r (n := (n : Int)) (row := row) (by omega) (k + 1)
      have hs0 := mCs_r (n := (n : Int)) (row := row) (by omega) k
      have hlk := mLck_r (n := (n : Int)) (by omega) (mDg_r row k) (mDg_r row (k + 1))
      have nogo : ¬ (1 ≤ mDg row k ∧ mDg row k ≤ n ∧ zb (mGn row k) (mDg row k) = 0) → R (-1) c h := fun q => k0 (fun w => q (hcv.mp w k hk))
      have good : (1 ≤ mDg row k ∧ mDg row k ≤ n ∧ zb (mGn row k) (mDg row k) = 0) → ∀ j : Nat, j < k + 1 → 1 ≤ mDg row j ∧ mDg row j ≤ n ∧ zb (mGn row j) (mDg row j) = 0 := by
        intro q j hj'
        by_cases e : j = k
        · subst e
          exact q
        · exact hj j (by omega)
      rw [mGn, mCs] at ih
      refine b_184_59 ?_
      rw [t1, t2, t3]
      refine ⟨fun q => by omega, fun _ => ⟨fun q => nogo (by omega), fun q => ⟨fun q1 => nogo (by omega), fun q1 => ⟨fun q2 => ⟨fun q3 => ?_, fun q3 => s_181 (by omega) (mDg_r row k) (mDg_r row (k + 1)) ?_⟩, fun q2 => nogo (fun w => ?_)⟩⟩⟩⟩
      · rw [if_neg (by omega), Int.add_zero] at ih
        rw [w32_s (by omega)]
        exact ih (good ⟨q, q1, (zb01 _ _).resolve_right q2⟩)
      · rw [if_pos q3] at ih
        rw [w32_s (by omega), w32_e (by omega) (by omega)]
        exact ih (good ⟨q, q1, (zb01 _ _).resolve_right q2⟩)
      · have q2 : zb (mGn row k) (mDg row k) = 1 := q2
        omega
  refine b_184 ⟨fun q => k0 (fun w => by have := w.1; omega), fun q => ⟨fun q1 => ⟨fun q2 => ⟨fun q3 => ⟨fun q4 => main q q1 3 ?_, fun q4 => main q q1 4 ?_⟩, fun q3 => main q q1 5 ?_⟩, fun q2 => main q q1 6 ?_⟩, fun q1 => k0 (fun w => by have := w.1; omega)⟩⟩
  all_goals
    unfold nD
    repeat' split
    all_goals omega
theorem s_310 {d c : Nat} {h : zH} {R : Int → Nat → zH → Prop} {X : Nat → Nat → zH → Prop} {row : Int} (k1 : mCv row → R (mCs (nD row) row (nD row)) c (hw h 113 0 0)) (k0 : ¬ mCv row → R 0 c (hw (hw (hw h 113 0 0) 113 0 1) 114 1 (w32 (h 114 1 + 1)))) : zCl (d + 1) 310 [(2, 113), (0, row)] c h R X := by
  have bad : ∀ i2 i3 i4 i5, ¬ mCv row → zWp (d + 1) 310 119 [(2, 113), (0, row), (0, i2), (0, i3), (0, i4), (0, i5), (9, 0)] [(2, 113)] (zTS c (hw h 113 0 0)) (zQ 1 R X) := by
    intro i2 i3 i4 i5 q
    refine b_310_119 (b_310_120 (s_222 (hw_eq ⟨rfl, rfl⟩) (by decide) (by decide) (fun q1 => absurd rfl q1) (fun _ => ⟨fun q1 => absurd rfl q1, fun _ => ?_⟩)))
    rw [hw_ne (by omega)]
    exact k0 q
  have bad88 : ∀ i2 i3 i5, ¬ mCv row → zWp (d + 1) 310 88 [(2, 113), (0, row), (0, i2), (0, i3), (0, 0), (0, i5), (9, 0)] [] (zTS c (hw h 113 0 0)) (zQ 1 R X) :=
    fun i2 i3 i5 q => b_310_88 ⟨fun _ => bad _ _ _ _ q, fun q1 => absurd rfl q1⟩
  have nope : ∀ x : Int, ¬ mCv row → zWp (d + 1) 310 30 [(2, 113), (0, row), (0, 0), (0, 0), (0, 0), (0, x), (9, 0)] [] (zTS c (hw h 113 0 0)) (zQ 1 R X) :=
    fun x q => b_310_30 ⟨fun _ => bad88 _ _ _ q, fun _ => ⟨fun _ => bad88 _ _ _ q, fun q1 => absurd rfl q1⟩⟩
  refine b_310 ⟨fun q => b_310_24 (b_310_25 (nope _ (fun w => by have := w.1; omega))), fun q => ⟨fun q1 => b_310_24 (b_310_25 (nope _ (fun w => by have := w.1; omega))), fun q1 => b_310_25 ?_⟩⟩
  have hr : 0 ≤ row ∧ row ≤ 999999 := by omega
  -- all digits are read
  have fin : ∀ k : Nat, k ≤ 6 → (∀ j : Nat, j < k → (1 ≤ mDg row j ∧ zb (mGn row j) (mDg row j) = 0) ∧ 0 < vK row j) → vK row k ≤ 0 → zWp (d + 1) 310 88 [(2, 113), (0, row), (0, (k : Int)), (0, mGn row k), (0, 1), (0, vK row k), (9, 0)] [] (zTS c (hw h 113 0 0)) (zQ 1 R X) := by
    intro k hk hj hz
    refine b_310_88 ⟨fun q => by omega, fun _ => s_254 (fun w => ⟨fun q => by omega, fun _ => ?_⟩) (fun w => ⟨fun _ => bad _ _ _ _ (fun v => ?_), fun q => absurd rfl q⟩)⟩
    · obtain ⟨n1, n2⟩ := nD_of (k := k) ⟨q, q1⟩ (by omega) hz (hj (k - 1) (by omega)).2
      have e1 : w32 (zShl 1 (w32 ((k : Int) + 1)) - 2) = zShl 1 ((k : Int) + 1) - 2 := by
        rcases (by omega : k = 3 ∨ k = 4 ∨ k = 5 ∨ k = 6) with e | e | e | e <;> subst e <;> decide
      rw [e1]
      have hiff : mCv row ↔ mGn row k = zShl 1 ((k : Int) + 1) - 2 := by
        constructor
        · intro v
          have hd : ∀ j : Nat, j < k → mDg row j ≤ k := fun j a => by
            have := v.2 j (by omega)
            omega
          have inv : ∀ m : Nat, m ≤ k → mOnes (mGn row m) = m ∧ zb (mGn row m) 0 = 0 ∧ (0 ≤ mGn row m ∧ mGn row m < 128) := by
            intro m
            induction m with
            | zero =>
              intro _
              rw [mGn]
              decide
            | succ m ihm =>
              intro hm
              obtain ⟨a1, a2, a3, a4⟩ := ihm (by omega)
              have dr := mDg_r row m
              have dk := hd m (by omega)
              have hg := (hj m (by omega)).1
              have o := ones_up (mGn row m).toNat (by omega) (mDg row m).toNat (by omega)
              rw [Int.toNat_of_nonneg a3, Int.toNat_of_nonneg dr.1] at o
              have zr := zOr_r (x := mGn row m) (d := mDg row m) (n := 7) (by decide) a3 a4 dr.1 (by omega)
              rw [mGn]
              refine ⟨by rw [o hg.2, a1]; omega, ?_, zr⟩
              rw [zb_or a3 (by omega) dr.1 (by omega) (by omega) (by omega), if_neg (by omega)]
              exact a2
          obtain ⟨a1, a2, a3, a4⟩ := inv k (Nat.le_refl _)
          have up := mGn_up (row := row) (n := k) (by omega) hd
          have o := ones_all (mGn row k).toNat (by omega) k (by omega)
          rw [Int.toNat_of_nonneg a3] at o
          refine o a1 ?_ a2
          have : ((mGn row k).toNat : Int) < ((2 ^ (k + 1) : Nat) : Int) := by
            rw [Int.toNat_of_nonneg a3, Int.natCast_pow]
            exact up.2
          exact_mod_cast this
        · intro e
          refine ⟨by omega, fun j hj' => ?_⟩
          rw [n2] at hj' ⊢
          have g := (hj j hj').1
          refine ⟨g.1, ?_, g.2⟩
          have dr := mDg_r row j
          have set : ∀ m : Nat, j < m → m ≤ k → zb (mGn row m) (mDg row j) = 1 := by
            intro m
            induction m with
            | zero => omega
            | succ m ihm =>
              intro h1 h2
              have gr := mGn_r row m
              rw [mGn, zb_or gr.1 (by omega) (mDg_r row m).1 (by have := mDg_r row m; omega) dr.1 (by omega)]
              by_cases e : j = m
              · subst e
                rw [if_pos rfl]
              · split
                · rfl
                · exact ihm (by omega) (by omega)
          have s1 := set k hj' (Nat.le_refl _)
          rcases Int.lt_or_le (k : Int) (mDg row j) with w2 | w2
          · rw [e] at s1
            have : zb (zShl 1 ((k : Int) + 1) - 2) (mDg row j) = 0 := by
              refine zb_hi (n := k + 1) ?_ ?_ (by omega) (by omega) (by omega)
              · rw [zShl_p (by omega) (by omega)]
                rcases (by omega : k = 3 ∨ k = 4 ∨ k = 5 ∨ k = 6) with e | e | e | e <;> subst e <;> decide
              · rw [zShl_p (by omega) (by omega), show ((k : Int) + 1).toNat = k + 1 by omega]
                omega
            omega
          · exact w2
      refine ⟨fun w2 => bad _ _ _ _ (fun v => w2 (hiff.mp v)), fun w2 => b_310_120 (s_222 (hw_eq ⟨rfl, rfl⟩) (by decide) (by decide) (fun _ => ⟨fun _ => ?_, fun q => absurd q (by decide)⟩) (fun q => absurd q (by decide)))⟩
      have kk := k1 (hiff.mpr w2)
      rw [n2] at kk
      have hv := vK_n (row := row) (by omega)
      rw [n2] at hv
      refine zDown (W := fun m => zWp (d + 1) 310 136 [(2, 113), (0, row), (0, (k : Int)), (0, mGn row k), (0, 1), (0, mCs k row m), (0, vK row m)] [] (zTS c (hw h 113 0 0)) (zQ 1 R X)) (k - 1) ?_ ?_ 0 (Nat.zero_le _)
      · have e2 : vK row k = vK row (k - 1) / 10 := by
          rw [show k = (k - 1) + 1 by omega]
          rfl
        refine b_310_136 ⟨fun _ => ?_, fun w3 => by omega⟩
        have e3 : mCs (k : Int) row k = mCs (k : Int) row (k - 1) := by
          have : mCs (k : Int) row ((k - 1) + 1) = mCs (k : Int) row (k - 1) := by
            rw [mCs, if_neg, Int.add_zero]
            rw [show k - 1 + 1 = k by omega]
            omega
          rwa [show k - 1 + 1 = k by omega] at this
        rw [e3] at kk
        exact kk
      · intro m hm ihm
        obtain ⟨t1, t2⟩ := tm10 hr m
        obtain ⟨t3, t4⟩ := tm10 hr (m + 1)
        have pos := hv.2 (m + 1) (by omega)
        have e2 : vK row (m + 1) = vK row m / 10 := rfl
        have hs := mCs_r (n := (k : Int)) (row := row) (by omega) m
        have hlk := mLck_r (n := (k : Int)) (by omega) (mDg_r row (m + 1)) (mDg_r row m)
        refine b_310_136 ⟨fun w3 => by omega, fun _ => ?_⟩
        rw [t1, t2, t3]
        refine s_309 (by omega) (mDg_r row (m + 1)) (mDg_r row m) ?_
        rw [w32_e (by omega) (by omega), mLck_c]
        rw [mCs, if_pos pos] at ihm
        exact ihm
    · obtain ⟨u0, u1, u2, u3, u4, u5, u6⟩ := vK_u row
      have := v.1
      rcases (by omega : k = 0 ∨ k = 1 ∨ k = 2) with e | e | e <;> subst e
      · omega
      · omega
      · omega
  refine zDown (W := fun k => (∀ j : Nat, j < k → (1 ≤ mDg row j ∧ zb (mGn row j) (mDg row j) = 0) ∧ 0 < vK row j) → zWp (d + 1) 310 30 [(2, 113), (0, row), (0, (k : Int)), (0, mGn row k), (0, 1), (0, vK row k), (9, 0)] [] (zTS c (hw h 113 0 0)) (zQ 1 R X)) 6 ?_ ?_ 0 (Nat.zero_le _) (fun j hj => by omega)
  · intro hj
    obtain ⟨u0, u1, u2, u3, u4, u5, u6⟩ := vK_u row
    exact b_310_30 ⟨fun w => fin 6 (by omega) hj w, fun w => by omega⟩
  · intro k hk ih hj
    obtain ⟨t1, t2⟩ := tm10 hr k
    have dr := mDg_r row k
    have nocv : ¬ (1 ≤ mDg row k ∧ zb (mGn row k) (mDg row k) = 0) → 0 < vK row k → ¬ mCv row := by
      intro w w1 v
      have hv := vK_n v.1
      have : k < nD row := by
        rcases Nat.lt_or_ge k (nD row) with a | a
        · exact a
        · have z : ∀ m : Nat, nD row ≤ m → vK row m = 0 := by
            intro m
            induction m with
            | zero =>
              intro b
              have := nD_r row
              omega
            | succ m ihm =>
              intro b
              by_cases e : nD row = m + 1
              · rw [← e]
                exact hv.1
              · rw [vK, ihm (by omega)]
                rfl
          have := z k a
          omega
      have g := v.2 k this
      exact w ⟨g.1, g.2.2⟩
    have out0 : ¬ mCv row → zWp (d + 1) 310 66 [(2, 113), (0, row), (0, (k : Int)), (0, mGn row k), (0, 1), (0, vK row k), (0, mDg row k)] [(0, 0)] (zTS c (hw h 113 0 0)) (zQ 1 R X) := by
      intro w
      refine b_310_66 (b_310_30 ⟨fun _ => bad88 _ _ _ w, fun _ => ⟨fun _ => bad88 _ _ _ w, fun q => absurd rfl q⟩⟩)
    refine b_310_30 ?_
    rw [t1]
    refine ⟨fun w => fin k (by omega) hj w, fun w => ⟨fun w1 => by omega, fun _ => ⟨fun w1 => b_310_65 (out0 (nocv (by omega) w)), fun w1 => ⟨fun w2 => b_310_65 (out0 (nocv (fun v => w2 v.2) w)), fun w2 => b_310_66 ?_⟩⟩⟩⟩
    rw [t2, w32_s (by omega)]
    rw [mGn] at ih
    refine ih (fun j hj' => ?_)
    by_cases e : j = k
    · subst e
      exact ⟨⟨by omega, w2⟩, w⟩
    · exact hj j (by omega)
