/-! the reference: elements; all deeds ahead; chains -/
theorem s_256 {d c : Nat} {h : zH} {R : Int → Nat → zH → Prop} {X : Nat → Nat → zH → Prop} {x co : Int} (h0 : h 113 0 = 0) (hc : co ≠ 0) (hn : 0 ≤ h 113 33 ∧ h 113 33 ≤ 100) (k1 : 0 ≤ x → x < h 113 33 → R 1 c h) (k0 : ¬ (0 ≤ x ∧ x < h 113 33) → R 0 c (hw (hw h 113 0 co) 114 0 (w32 (h 114 0 + 1)))) : zCl (d + 1) 256 [(2, 113), (0, x), (0, co)] c h R X := by
  refine b_256 ?_
  rw [w32_e (by omega) (by omega)]
  exact s_254 (fun q => s_222 h0 (by decide) hc (fun _ => ⟨Or.inr rfl, k1 q.1 (by omega)⟩) (fun q1 => absurd q1 (by decide))) (fun q => s_222 h0 (by decide) hc (fun q1 => absurd rfl q1) (fun _ => ⟨Or.inl rfl, k0 (by omega)⟩))
theorem s_258 {d c : Nat} {h : zH} {R : Int → Nat → zH → Prop} {X : Nat → Nat → zH → Prop} {x co : Int} (h0 : h 113 0 = 0) (hc : co ≠ 0) (hn : 0 ≤ h 113 32 ∧ h 113 32 ≤ 100) (k1 : 0 ≤ x → x < h 113 32 → R 1 c h) (k0 : ¬ (0 ≤ x ∧ x < h 113 32) → R 0 c (hw (hw h 113 0 co) 114 0 (w32 (h 114 0 + 1)))) : zCl (d + 1) 258 [(2, 113), (0, x), (0, co)] c h R X := by
  refine b_258 ?_
  rw [w32_e (by omega) (by omega)]
  exact s_254 (fun q => s_222 h0 (by decide) hc (fun _ => ⟨Or.inr rfl, k1 q.1 (by omega)⟩) (fun q1 => absurd q1 (by decide))) (fun q => s_222 h0 (by decide) hc (fun q1 => absurd rfl q1) (fun _ => ⟨Or.inl rfl, k0 (by omega)⟩))
theorem s_297 {d c : Nat} {h : zH} {R : Int → Nat → zH → Prop} {X : Nat → Nat → zH → Prop} {x co : Int} (h0 : h 113 0 = 0) (hc : co ≠ 0) (hn : 0 ≤ h 113 35 ∧ h 113 35 ≤ 100) (k1 : 0 ≤ x → x < h 113 35 → R 1 c h) (k0 : ¬ (0 ≤ x ∧ x < h 113 35) → R 0 c (hw (hw h 113 0 co) 114 0 (w32 (h 114 0 + 1)))) : zCl (d + 1) 297 [(2, 113), (0, x), (0, co)] c h R X := by
  refine b_297 ?_
  rw [w32_e (by omega) (by omega)]
  exact s_254 (fun q => s_222 h0 (by decide) hc (fun _ => ⟨Or.inr rfl, k1 q.1 (by omega)⟩) (fun q1 => absurd q1 (by decide))) (fun q => s_222 h0 (by decide) hc (fun q1 => absurd rfl q1) (fun _ => ⟨Or.inl rfl, k0 (by omega)⟩))
theorem s_266 {d c : Nat} {h : zH} {R : Int → Nat → zH → Prop} {X : Nat → Nat → zH → Prop} {x co : Int} (h0 : h 113 0 = 0) (hc : co ≠ 0) (hn : 0 ≤ h 113 49 ∧ h 113 49 ≤ 100) (k1 : 0 ≤ x → x < h 113 49 → R 1 c h) (k0 : ¬ (0 ≤ x ∧ x < h 113 49) → R 0 c (hw (hw h 113 0 co) 114 0 (w32 (h 114 0 + 1)))) : zCl (d + 1) 266 [(2, 113), (0, x), (0, co)] c h R X := by
  refine b_266 ?_
  rw [w32_e (by omega) (by omega)]
  exact s_254 (fun q => s_222 h0 (by decide) hc (fun _ => ⟨Or.inr rfl, k1 q.1 (by omega)⟩) (fun q1 => absurd q1 (by decide))) (fun q => s_222 h0 (by decide) hc (fun q1 => absurd rfl q1) (fun _ => ⟨Or.inl rfl, k0 (by omega)⟩))
theorem zOr_I {x y : Int} (hx : 0 ≤ x) (hx' : x < 2147483648) (hy : 0 ≤ y) (hy' : y < 2147483648) : zOr x y = ((x.toNat ||| y.toNat : Nat) : Int) := by
  have := zOr_n (n := x.toNat) (m := y.toNat) (by omega) (by omega)
  rwa [Int.toNat_of_nonneg hx, Int.toNat_of_nonneg hy] at this
theorem zOr2_r {x y : Int} {n : Nat} (hn : n ≤ 31) (hx : 0 ≤ x) (hx' : x < 2 ^ n) (hy : 0 ≤ y) (hy' : y < 2 ^ n) : 0 ≤ zOr x y ∧ zOr x y < 2 ^ n := by
  have h31 : (2 : Nat) ^ n ≤ 2 ^ 31 := Nat.pow_le_pow_right (n := 2) (by decide) hn
  have cv : ∀ z : Int, 0 ≤ z → z < 2 ^ n → z.toNat < 2 ^ n := by
    intro z z0 z1
    have : ((z.toNat : Nat) : Int) < ((2 ^ n : Nat) : Int) := by
      rw [Int.toNat_of_nonneg z0, Int.natCast_pow]
      exact z1
    exact_mod_cast this
  have a := cv x hx hx'
  have b := cv y hy hy'
  rw [zOr_I hx (by omega) hy (by omega)]
  have hb : x.toNat ||| y.toNat < 2 ^ n := Nat.or_lt_two_pow a b
  refine ⟨by omega, ?_⟩
  exact_mod_cast hb
theorem zb_or2 {x y k : Int} (hx : 0 ≤ x) (hx' : x < 2147483648) (hy : 0 ≤ y) (hy' : y < 2147483648) (hk : 0 ≤ k) (hk' : k < 31) : zb (zOr x y) k = 1 ↔ (zb x k = 1 ∨ zb y k = 1) := by
  have hb : x.toNat ||| y.toNat < 2147483648 := Nat.or_lt_two_pow (n := 31) (by omega) (by omega)
  rw [zOr_I hx hx' hy hy', zb_I (by omega) (by omega) hk (by omega), zb_I hx hx' hk (by omega), zb_I hy hy' hk (by omega), Int.toNat_natCast, Nat.testBit_or]
  generalize x.toNat.testBit k.toNat = a
  generalize y.toNat.testBit k.toNat = b
  revert a b
  decide
theorem zb_ext {x y : Int} {n : Nat} (hn : n ≤ 31) (hx : 0 ≤ x) (hx' : x < 2 ^ n) (hy : 0 ≤ y) (hy' : y < 2 ^ n) (h : ∀ k : Int, 0 ≤ k → k < n → (zb x k = 1 ↔ zb y k = 1)) : x = y := by
  have h31 : (2 : Int) ^ n ≤ 2 ^ 31 := by
    have : (2 : Nat) ^ n ≤ 2 ^ 31 := Nat.pow_le_pow_right (n := 2) (by decide) hn
    exact_mod_cast this
  have h31' : (2 : Int) ^ 31 = 2147483648 := by decide
  have cv : ∀ z : Int, 0 ≤ z → z < 2 ^ n → z.toNat < 2 ^ n := by
    intro z z0 z1
    have : ((z.toNat : Nat) : Int) < ((2 ^ n : Nat) : Int) := by
      rw [Int.toNat_of_nonneg z0, Int.natCast_pow]
      exact z1
    exact_mod_cast this
  have a := cv x hx hx'
  have b := cv y hy hy'
  have : x.toNat = y.toNat := by
    apply Nat.eq_of_testBit_eq
    intro i
    by_cases hi : i < n
    · have := h i (by omega) (by omega)
      rw [zb_I hx (by omega) (by omega) (by omega), zb_I hy (by omega) (by omega) (by omega), Int.toNat_natCast] at this
      generalize x.toNat.testBit i = a at this ⊢
      generalize y.toNat.testBit i = b at this ⊢
      revert a b
      decide
    · rw [Nat.testBit_lt_two_pow (Nat.lt_of_lt_of_le a (Nat.pow_le_pow_right (by decide) (by omega))), Nat.testBit_lt_two_pow (Nat.lt_of_lt_of_le b (Nat.pow_le_pow_right (by decide) (by omega)))]
  omega
theorem two12 {k : Nat} (h : k ≤ 12) : (2 : Int) ^ k ≤ 4096 := by
  have h1 : (2 : Nat) ^ k ≤ 2 ^ 12 := Nat.pow_le_pow_right (n := 2) (by decide) h
  have h2 : (2 : Nat) ^ 12 = 4096 := by decide
  have : ((2 ^ k : Nat) : Int) ≤ 4096 := by omega
  rwa [Int.natCast_pow] at this
theorem mOrs_r {a : Int} {g A : Int → Int} (ha : 0 ≤ a ∧ a < 4096) : ∀ {n : Nat}, (∀ k : Nat, k < n → 0 ≤ A k ∧ A k < 4096) → 0 ≤ mOrs a g A n ∧ mOrs a g A n < 4096
  | 0, _ => ha
  | n + 1, h => by
    have h1 := mOrs_r ha (n := n) (g := g) (fun k hk => h k (by omega))
    have h2 := h n (by omega)
    rw [mOrs]
    split
    · exact zOr2_r (n := 12) (by decide) h1.1 h1.2 h2.1 h2.2
    · exact h1
theorem mOrs_b {a : Int} {g A : Int → Int} (ha : 0 ≤ a ∧ a < 4096) {j : Int} (hj : 0 ≤ j ∧ j < 12) : ∀ {n : Nat}, (∀ k : Nat, k < n → 0 ≤ A k ∧ A k < 4096) → (zb (mOrs a g A n) j = 1 ↔ (zb a j = 1 ∨ ∃ k : Nat, k < n ∧ g k = 1 ∧ zb (A k) j = 1))
  | 0, _ => by
    rw [mOrs]
    constructor
    · exact Or.inl
    · rintro (h | ⟨k, hk, _⟩)
      · exact h
      · omega
  | n + 1, h => by
    have h0 := mOrs_r (g := g) ha (n := n) (fun k hk => h k (by omega))
    have h1 := mOrs_b (g := g) ha hj (n := n) (fun k hk => h k (by omega))
    have h2 := h n (by omega)
    rw [mOrs]
    by_cases q : g n = 1
    · rw [if_pos q, zb_or2 h0.1 (by omega) h2.1 (by omega) hj.1 (by omega), h1]
      constructor
      · rintro ((w | ⟨k, a1, a2, a3⟩) | w)
        · exact Or.inl w
        · exact Or.inr ⟨k, by omega, a2, a3⟩
        · exact Or.inr ⟨n, by omega, q, w⟩
      · rintro (w | ⟨k, a1, a2, a3⟩)
        · exact Or.inl (Or.inl w)
        · by_cases e : k = n
          · subst e
            exact Or.inr a3
          · exact Or.inl (Or.inr ⟨k, by omega, a2, a3⟩)
    · rw [if_neg q, h1]
      constructor
      · rintro (w | ⟨k, a1, a2, a3⟩)
        · exact Or.inl w
        · exact Or.inr ⟨k, by omega, a2, a3⟩
      · rintro (w | ⟨k, a1, a2, a3⟩)
        · exact Or.inl w
        · by_cases e : k = n
          · subst e
            exact absurd a2 q
          · exact Or.inr ⟨k, by omega, a2, a3⟩
theorem mAh_s {r : zH} {n d : Nat} (h : d < n) : mAh r n d = mOrs (r 6 d) (zb (r 6 d)) (mAh r d) d := by
  induction n with
  | zero => omega
  | succ n ih =>
    show (if (d : Int) = n then _ else mAh r n d) = _
    by_cases e : d = n
    · subst e
      rw [if_pos rfl]
    · rw [if_neg (by omega), ih (by omega)]
theorem mCh_s {r : zH} {n d : Nat} (h : d < n) : mCh r n d = mMx (mCh r d) (zb (r 6 d)) d + r 2 d := by
  induction n with
  | zero => omega
  | succ n ih =>
    show (if (d : Int) = n then _ else mCh r n d) = _
    by_cases e : d = n
    · subst e
      rw [if_pos rfl]
    · rw [if_neg (by omega), ih (by omega)]
theorem nd_r {r : zH} (wr : wRoad r) {k : Nat} (hk : (k : Int) < r 0 1) : 0 ≤ r 6 k ∧ r 6 k < 4096 ∧ r 6 k < 2 ^ k := by
  have hd := wr_d wr
  have h := wr_deed wr k (by omega) hk
  have := two12 (k := k) (by omega)
  have e : ((k : Int)).toNat = k := by omega
  rw [e] at h
  omega
theorem mAh_r {r : zH} (wr : wRoad r) : ∀ (d n : Nat), d < n → (d : Int) < r 0 1 → 0 ≤ mAh r n d ∧ mAh r n d < 4096 := by
  intro d
  induction d using Nat.strongRecOn with
  | ind d ih =>
    intro n hn hd
    have h := nd_r wr hd
    rw [mAh_s hn]
    exact mOrs_r ⟨h.1, h.2.1⟩ (fun k hk => ih k hk d hk (by omega))
theorem mAh_b {r : zH} (wr : wRoad r) {d n : Nat} (hn : d < n) (hd : (d : Int) < r 0 1) {j : Int} (hj : 0 ≤ j ∧ j < 12) : zb (mAh r n d) j = 1 ↔ (zb (r 6 d) j = 1 ∨ ∃ k : Nat, k < d ∧ zb (r 6 d) k = 1 ∧ zb (mAh r n k) j = 1) := by
  have h := nd_r wr hd
  rw [mAh_s hn, mOrs_b ⟨h.1, h.2.1⟩ hj (fun k hk => mAh_r wr k d hk (by omega))]
  constructor
  · rintro (w | ⟨k, a1, a2, a3⟩)
    · exact Or.inl w
    · refine Or.inr ⟨k, a1, a2, ?_⟩
      rw [mAh_s (show k < n by omega)]
      rwa [mAh_s a1] at a3
  · rintro (w | ⟨k, a1, a2, a3⟩)
    · exact Or.inl w
    · refine Or.inr ⟨k, a1, a2, ?_⟩
      rw [mAh_s a1]
      rwa [mAh_s (show k < n by omega)] at a3
theorem s_283_31 {d c : Nat} {h : zH} {R : Int → Nat → zH → Prop} {X : Nat → Nat → zH → Prop} {r : zH} {e : Nat} (mr : mRoad h r) (wr : wRoad r) (he : (e : Int) < r 0 1) (k : R (mAh r (r 0 1).toNat e) c h) : zWp (d + 2) 283 31 [(2, 113), (0, (e : Int)), (0, r 6 e), (0, (e : Int) - 1)] [] (zTS c h) (zQ 1 R X) := by
  have hd := wr_d wr
  have h0 := nd_r wr he
  have key : ∀ (m : Nat), m ≤ e → ∀ B : Int, (0 ≤ B ∧ B < 4096) → (∀ j : Int, 0 ≤ j → j < 12 → zb (r 6 e) j = 1 → zb B j = 1) → (∀ j : Int, 0 ≤ j → j < 12 → zb B j = 1 → zb (mAh r (r 0 1).toNat e) j = 1) → (∀ f : Nat, m ≤ f → f < e → zb B f = 1 → ∀ j : Int, 0 ≤ j → j < 12 → zb (r 6 f) j = 1 → zb B j = 1) → zWp (d + 2) 283 31 [(2, 113), (0, (e : Int)), (0, B), (0, (m : Int) - 1)] [] (zTS c h) (zQ 1 R X) := by
    intro m
    induction m with
    | zero =>
      intro _ B hB a1 a2 a3
      refine b_283_31 ⟨fun _ => ?_, fun q => by omega⟩
      have ar := mAh_r wr e (r 0 1).toNat (by omega) he
      have : B = mAh r (r 0 1).toNat e := by
        refine zb_ext (n := 12) (by decide) hB.1 hB.2 ar.1 ar.2 (fun j j0 j1 => ⟨a2 j j0 (by omega), ?_⟩)
        -- what B holds is closed
        have cl : ∀ f : Nat, f < e → zb B f = 1 → ∀ j : Int, 0 ≤ j → j < 12 → zb (mAh r (r 0 1).toNat f) j = 1 → zb B j = 1 := by
          intro f
          induction f using Nat.strongRecOn with
          | ind f ihf =>
            intro hf hbf j j0 j1 hj
            rcases (mAh_b wr (d := f) (n := (r 0 1).toNat) (by omega) (by omega) ⟨j0, j1⟩).mp hj with w | ⟨i, i1, i2, i3⟩
            · exact a3 f (by omega) hf hbf j j0 j1 w
            · have := a3 f (by omega) hf hbf i (by omega) (by omega) i2
              exact ihf i i1 (by omega) this j j0 j1 i3
        intro hj
        rcases (mAh_b wr (d := e) (n := (r 0 1).toNat) (by omega) he ⟨j0, by omega⟩).mp hj with w | ⟨i, i1, i2, i3⟩
        · exact a1 j j0 (by omega) w
        · exact cl i i1 (a1 i (by omega) (by omega) i2) j j0 (by omega) i3
      rw [this]
      exact k
    | succ m ih =>
      intro hm B hB a1 a2 a3
      have hc := mr_deed mr m (by omega) (by omega)
      have nm := nd_r wr (k := m) (by omega)
      have e1 : ((m + 1 : Nat) : Int) - 1 = m := by omega
      have e2 : w32 ((m : Int) + -1) = (m : Int) - 1 := by rw [w32_e (by omega) (by omega)]; omega
      have e4 : w32 (w32 (5 * (m : Int)) + 4) = 5 * m + 4 := by rw [w32_e (x := 5 * _) (by omega) (by omega), w32_e (by omega) (by omega)]
      rw [e1]
      refine b_283_31 ?_
      rw [e4, hc.2.2.2.2, e2]
      refine ⟨fun q => by omega, fun _ => ⟨fun q => ?_, fun q => ⟨by omega, ?_⟩⟩⟩
      · have z : zOr B 0 = B := by
          rw [zOr_I hB.1 (by omega) (by omega) (by omega)]
          simp
          omega
        rw [z]
        refine ih (by omega) B hB a1 a2 (fun f f1 f2 f3 => ?_)
        by_cases e : f = m
        · subst e
          exact absurd f3 q
        · exact a3 f (by omega) f2 f3
      · have q : zb B m = 1 := q
        have or2 := zOr2_r (n := 12) (by decide) hB.1 hB.2 nm.1 nm.2.1
        have ob : ∀ j : Int, 0 ≤ j → j < 12 → (zb (zOr B (r 6 m)) j = 1 ↔ (zb B j = 1 ∨ zb (r 6 m) j = 1)) := fun j j0 j1 => zb_or2 hB.1 (by omega) nm.1 (by omega) j0 (by omega)
        refine ih (by omega) _ or2 (fun j j0 j1 w => (ob j j0 j1).mpr (Or.inl (a1 j j0 j1 w))) (fun j j0 j1 w => ?_) (fun f f1 f2 f3 j j0 j1 w => ?_)
        · rcases (ob j j0 j1).mp w with w | w
          · exact a2 j j0 j1 w
          · -- m is ahead of e, and so is what m needs
            have am := a2 m (by omega) (by omega) q
            have tr : ∀ x : Nat, (x : Int) < r 0 1 → zb (mAh r (r 0 1).toNat x) m = 1 → zb (mAh r (r 0 1).toNat x) j = 1 := by
              intro x
              induction x using Nat.strongRecOn with
              | ind x ihx =>
                intro hx hxm
                refine (mAh_b wr (d := x) (n := (r 0 1).toNat) (by omega) hx ⟨j0, j1⟩).mpr ?_
                rcases (mAh_b wr (d := x) (n := (r 0 1).toNat) (by omega) hx (show (0 : Int) ≤ (m : Int) ∧ (m : Int) < 12 by omega)).mp hxm with v | ⟨i, i1, i2, i3⟩
                · have mx : m < x := by
                    rcases Nat.lt_or_ge m x with g | g
                    · exact g
                    · have nx := nd_r wr hx
                      have := zb_hi (x := r 6 x) (p := m) (n := x) nx.1 nx.2.2 (by omega) (by omega) (by omega)
                      omega
                  refine Or.inr ⟨m, mx, v, ?_⟩
                  exact (mAh_b wr (d := m) (n := (r 0 1).toNat) (by omega) (by omega) ⟨j0, j1⟩).mpr (Or.inl w)
                · exact Or.inr ⟨i, i1, i2, ihx i i1 (by omega) i3⟩
            exact tr e he am
        · by_cases e5 : f = m
          · subst e5
            exact (ob j j0 j1).mpr (Or.inr w)
          · rcases (ob f (by omega) (by omega)).mp f3 with v | v
            · exact (ob j j0 j1).mpr (Or.inl (a3 f (by omega) f2 v j j0 j1 w))
            · -- what m needs is lower than m
              have := zb_hi (x := r 6 m) (p := f) (n := m) nm.1 nm.2.2 (by omega) (by omega) (by omega)
              omega
  refine key e (Nat.le_refl _) _ ⟨h0.1, h0.2.1⟩ (fun _ _ _ w => w) (fun j j0 j1 w => ?_) (fun f f1 f2 => by omega)
  exact (mAh_b wr (d := e) (n := (r 0 1).toNat) (by omega) he ⟨j0, j1⟩).mpr (Or.inl w)
theorem mCh_r {r : zH} (wr : wRoad r) : ∀ (n : Nat), (n : Int) ≤ r 0 1 → ∀ k : Nat, k < n → 0 ≤ mCh r n k ∧ mCh r n k ≤ 30 * (k + 1) := by
  intro n hn k
  induction k using Nat.strongRecOn generalizing n with
  | ind k ih =>
    intro hk
    have w := wr_deed wr k (by omega) (by omega)
    rw [mCh_s hk]
    have g := mMx_ge (mCh r k) (zb (r 6 k)) k
    have l := mMx_le (F := mCh r k) (g := zb (r 6 k)) (b := 30 * k) (by omega) (n := k) (fun i hi => by have := ih i hi k (by omega) hi; omega)
    omega
theorem s_284_18 {d c : Nat} {h0 : zH} {R : Int → Nat → zH → Prop} {X : Nat → Nat → zH → Prop} {r : zH} {e : Nat} (mr : mRoad h0 r) (wr : wRoad r) (he : (e : Int) < r 0 1) (k : ∀ h', (∀ o j, o ≠ 149 → h' o j = h0 o j) → R (mCh r (r 0 1).toNat e) c h') : zWp (d + 2) 284 18 [(2, 113), (0, (e : Int)), (0, 0), (9, 0), (9, 0)] [] (zTS c h0) (zQ 1 R X) := by
  have hd := wr_d wr
  refine zDown (W := fun n => ∀ h, (∀ o j, o ≠ 149 → h o j = h0 o j) → (∀ j : Nat, j < n → h 149 j = mCh r n j) → zWp (d + 2) 284 18 [(2, 113), (0, (e : Int)), (0, (n : Int)), (9, 0), (9, 0)] [] (zTS c h) (zQ 1 R X)) (e + 1) ?_ ?_ 0 (Nat.zero_le _) h0 (fun _ _ _ => rfl) (fun j hj => by omega)
  · intro h f1 f2
    refine b_284_18 ⟨fun _ => ⟨by omega, ?_⟩, fun q => by omega⟩
    rw [f2 e (by omega), mCh_s (show e < e + 1 by omega)]
    have := k h f1
    rw [mCh_s (show e < (r 0 1).toNat by omega)] at this
    exact this
  · intro n hn ih h f1 f2
    have mr1 : mRoad h r := mRoad_fr (fun o j q => f1 o j (by unfold mRo at q; omega)) mr
    have hc := mr_deed mr1 n (by omega) (by omega)
    have hw := wr_deed wr n (by omega) (by omega)
    have e4 : w32 (w32 (5 * (n : Int)) + 4) = 5 * n + 4 := by rw [w32_e (x := 5 * _) (by omega) (by omega), w32_e (by omega) (by omega)]
    have e0 : w32 (w32 (5 * (n : Int)) + 0) = 5 * n := by rw [w32_e (x := 5 * _) (by omega) (by omega), w32_e (by omega) (by omega)]; omega
    have mc : ∀ m : Nat, m ≤ n → mMx (h 149) (zb (r 6 n)) m = mMx (mCh r n) (zb (r 6 n)) m := fun m hm => mMx_congr (fun k hk => f2 k (by omega))
    refine b_284_18 ⟨fun q => by omega, fun _ => ?_⟩
    refine zDown (W := fun m => zWp (d + 2) 284 28 [(2, 113), (0, (e : Int)), (0, (n : Int)), (0, mMx (h 149) (zb (r 6 n)) m), (0, (m : Int))] [] (zTS c h) (zQ 1 R X)) n ?_ ?_ 0 (Nat.zero_le _)
    · refine b_284_28 ⟨fun _ => ?_, fun q => by omega⟩
      have l := mMx_le (F := mCh r n) (g := zb (r 6 n)) (b := 360) (by omega) (n := n) (fun i hi => by have := mCh_r wr n (by omega) i hi; omega)
      have g := mMx_ge (mCh r n) (zb (r 6 n)) n
      rw [e0, hc.1, mc n (Nat.le_refl _), w32_s (by omega), w32_e (by omega) (by omega)]
      refine ⟨by omega, by omega, ih _ (fun o j q => by rw [hw_ne (Or.inl q), f1 o j q]) (fun j hj => ?_)⟩
      by_cases ej : j = n
      · subst ej
        rw [hw_eq ⟨rfl, rfl⟩, mCh_s (show j < j + 1 by omega)]
        omega
      · rw [hw_ne (by omega), f2 j (by omega), mCh_s (show j < n by omega), mCh_s (show j < n + 1 by omega)]
    · intro m hm ihm
      refine b_284_28 ⟨fun q => by omega, fun _ => ?_⟩
      rw [e4, hc.2.2.2.2, w32_s (by omega)]
      rw [mMx] at ihm
      refine ⟨by omega, fun q => ?_, fun q => ⟨by omega, fun q1 => ?_, fun q1 => ⟨by omega, ?_⟩⟩⟩
      · rw [if_neg q] at ihm
        exact ihm
      · rw [if_pos q] at ihm
        unfold zMx at ihm
        rw [if_neg (by omega)] at ihm
        exact ihm
      · rw [if_pos q] at ihm
        unfold zMx at ihm
        rw [if_pos (by omega)] at ihm
        exact ihm
