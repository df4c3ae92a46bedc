/-! what is asked of a plan: the reference; evenings -/
/-- the reference behind a going, but for the seed -/
def mGoS (h s : zH) (n : Int) : Prop := h 113 58 = s 0 1 ∧ (∀ k : Int, 0 ≤ k → k < 12 → h 145 k = s 1 k) ∧ (∀ k : Int, 0 ≤ k → k < 4 → h 146 k = s 6 k ∧ h 147 k = s 5 k) ∧ (∀ k : Int, 0 ≤ k → k < n → h 142 k = s 3 k ∧ h 143 k = s 4 k)
/-- what a going changes in the reference -/
def mSc (o j : Int) : Prop := o = 136 ∨ o = 137 ∨ (142 ≤ o ∧ o ≤ 147) ∨ (o = 113 ∧ (j = 58 ∨ j = 68))
theorem mCs' {o j : Int} (q : mCell o j) : ¬ mSc o j := by
  unfold mCell at q
  unfold mSc
  omega
theorem s_267d {d c : Nat} {h : zH} {R : Int → Nat → zH → Prop} {X : Nat → Nat → zH → Prop} {r : zH} {f : Int → Int} {N : Nat} {P : List (Int × Int)} {xl xb : Int} (md : mD h r f N P) (wd : wD r f N P) (hx : 0 ≤ xb ∧ xb ≤ 100) (hmo : ∀ i : Int, 0 ≤ i → i < P.length → h 148 (pD P i) = if i = xl then xb else 0) (k : ∀ h', (∀ o j, ¬ mSc o j → h' o j = h o j) → mGoS h' (mG0 r f N P xl xb) P.length → R (mG0 r f N P xl xb 0 0) c h') : zCl (d + 4) 267 [(2, 113), (0, 0)] c h R X := by
  refine s_267 (sd := 0) (sp := 0) md.1 wd.1 md.2.1 wd.2.1 md.2.2 wd.2.2 hx rfl (fun q => absurd rfl q) (fun q => absurd rfl q) hmo (fun h' f1 g => k h' (fun o j q => f1 o j q) ⟨g.1, g.2.2.1, fun k a b => ⟨(g.2.2.2.1 k a b).2.2, (g.2.2.2.1 k a b).2.1⟩, g.2.2.2.2⟩)
theorem s_279 {d c : Nat} {h : zH} {R : Int → Nat → zH → Prop} {X : Nat → Nat → zH → Prop} {r : zH} {f : Int → Int} {N : Nat} {P : List (Int × Int)} (md : mD h r f N P) (wd : wD r f N P) (hmo : ∀ i : Int, 0 ≤ i → i < 12 → h 148 i = 0) (k : ∀ h', (∀ o j, ¬ mSc o j → h' o j = (hw h 113 0 0) o j) → R (mLb (mG0 r f N P (-1) 0 6) 4) c h') : zCl (d + 5) 279 [(2, 113)] c h R X := by
  have hp := wr_p wd.1
  have hdd := wr_d wd.1
  refine b_279 (s_267d (xl := -1) (xb := 0) (mD_fr (fun o j q => by unfold mCell at q; rw [hw_ne (by omega)]) md) wd (by decide) (fun i a b => ?_) (fun h' f1 g => ?_))
  · have := wd.2.2.2.1 i a b
    rw [hw_ne (by omega), hmo _ (by omega) (by omega)]
    split <;> rfl
  · have kk := k h' f1
    have g3 := g.2.2.1
    have hi : ∀ k : Int, r 0 0 ≤ k → k < 4 → mG0 r f N P (-1) 0 6 k = 0 := mGo_hi (f := f) (N := N) (sp := 0) (xl := -1) (xb := 0) (sd := 0) wd.1 wd.2.2 P.length (Nat.le_refl _)
    have ep : h' 113 32 = r 0 0 := by
      rw [f1 _ _ (by unfold mSc; omega), hw_ne (by omega)]
      exact mr_p md.1
    generalize mG0 r f N P (-1) 0 = s at *
    rw [(mLb_ext (V := s 6) (n := (r 0 0).toNat) (m := 4) (by omega) (fun k a b => hi k (by omega) (by omega))).1] at kk
    refine zDown (W := fun m => zWp (d + 5) 279 17 [(2, 113), (0, mLb (s 6) m), (0, mMo (s 6) m), (0, (m : Int))] [] (zTS c h') (zQ 1 R X)) (r 0 0).toNat ?_ ?_ 0 (Nat.zero_le _)
    · exact b_279_17 ⟨fun _ => kk, fun q => by omega⟩
    · intro m hm ih
      rw [mLb, mMo] at ih
      unfold zMx at ih
      refine b_279_17 ?_
      rw [(g3 m (by omega) (by omega)).1, w32_s (by omega)]
      refine ⟨fun q => by omega, fun _ => ⟨by omega, fun q => ⟨by omega, ?_⟩, fun q => ?_⟩⟩
      · rw [if_pos q, if_pos q] at ih
        exact ih
      · rw [if_neg (by omega), if_neg (by omega)] at ih
        exact ih
theorem s_281 {d c : Nat} {h : zH} {R : Int → Nat → zH → Prop} {X : Nat → Nat → zH → Prop} {e : Int} {r : zH} {f : Int → Int} {N : Nat} {P : List (Int × Int)} (md : mD h r f N P) (wd : wD r f N P) (he : 0 ≤ e ∧ e < r 0 1) (hmo : ∀ i : Int, 0 ≤ i → i < 12 → h 148 i = 0) (k : ∀ h', (∀ o j, ¬ mSc o j → o ≠ 148 → h' o j = h o j) → (∀ i : Int, 0 ≤ i → i < 12 → h' 148 i = 0) → R (mSl r f N P e 99) c h') : zCl (d + 5) 281 [(2, 113), (0, e)] c h R X := by
  have hdd := wr_d wd.1
  have hr := mLi_r (P := P) (e := e) P.length (Nat.le_refl _)
  have he2 := mGo_end (f := f) (N := N) (sp := 0) (xl := -1) (xb := 0) (sd := 0) wd.1 wd.2.2 (by decide) P.length (Nat.le_refl _)
  unfold mSl at k
  refine b_281 (s_267d (xl := -1) (xb := 0) md wd (by decide) (fun i a b => ?_) (fun h1 f1 g => ?_))
  · have := wd.2.2.2.1 i a b
    rw [hmo _ (by omega) (by omega)]
    split <;> rfl
  · rw [g.2.1 e (by omega) (by omega)]
    refine ⟨by omega, fun q => ⟨by omega, ?_⟩, fun q => ?_⟩
    · -- the deed has a line that is not blocked
      have hl : (0 ≤ mLi P e P.length ∧ mLi P e P.length < P.length) ∧ pD P (mLi P e P.length) = e := by
        rcases hr with ⟨a, b⟩ | ⟨a, b, c⟩
        · exact absurd (he2.2 e (fun j j1 j2 => b j (by omega) j2)) q
        · exact ⟨by omega, c⟩
      have hb : mG0 r f N P (-1) 0 3 (mLi P e P.length) ≠ -1 := by
        intro w
        have := (he2.1 _ hl.1.1 hl.1.2).mp w
        rw [hl.2] at this
        exact q this
      have k' : ∀ h', (∀ o j, ¬ mSc o j → o ≠ 148 → h' o j = h o j) → (∀ i : Int, 0 ≤ i → i < 12 → h' 148 i = 0) → R (mSr (fun x => mG0 r f N P (mLi P e P.length) x 0 0) (mG0 r f N P (-1) 0 0 0) 99 99) c h' := by
        intro h' a b
        have := k h' a b
        rw [if_neg (by omega), if_neg hb] at this
        exact this
      have key : ∀ m : Nat, m ≤ 99 → ∀ h2, (∀ o j, ¬ mSc o j → o ≠ 148 → h2 o j = h o j) → (∀ i : Int, 0 ≤ i → i < 12 → i ≠ e → h2 148 i = 0) → h2 148 e = (99 : Int) - (m : Int) + 1 → (∀ h', (∀ o j, ¬ mSc o j → o ≠ 148 → h' o j = h o j) → (∀ i : Int, 0 ≤ i → i < 12 → h' 148 i = 0) → R (mSr (fun x => mG0 r f N P (mLi P e P.length) x 0 0) (mG0 r f N P (-1) 0 0 0) 99 m) c h') → zWp (d + 5) 281 27 [(2, 113), (0, e), (0, mG0 r f N P (-1) 0 0 0), (0, 99 - (m : Int))] [] (zTS c h2) (zQ 1 R X) := by
        intro m
        induction m with
        | zero =>
          intro _ h2 fr z1 z2 kk
          refine b_281_27 ⟨fun _ => ⟨by omega, kk _ (fun o j a b => by rw [hw_ne (by omega), fr o j a b]) (fun i a b => ?_)⟩, fun w => by omega⟩
          by_cases ei : i = e
          · rw [hw_eq ⟨rfl, ei⟩]
          · rw [hw_ne (by omega), z1 i a b ei]
        | succ m ih =>
          intro hm h2 fr z1 z2 kk
          have e1 : (99 : Int) - ((m + 1 : Nat) : Int) + 1 = 99 - m := by omega
          rw [e1] at z2
          have md2 : mD h2 r f N P := mD_fr (fun o j q => fr o j (mCs' q) (by unfold mCell at q; omega)) md
          refine b_281_27 ⟨fun w => by omega, fun _ => s_267d (xl := mLi P e P.length) (xb := 99 - m) md2 wd (by omega) (fun i a b => ?_) (fun h3 f3 g3 => ⟨fun q1 => ⟨by omega, ?_⟩, fun q1 => ⟨by omega, ?_⟩⟩)⟩
          · have w := wd.2.2.2.1 i a b
            by_cases ei : i = mLi P e P.length
            · rw [if_pos ei, ei, hl.2, z2]
            · have ne : pD P i ≠ e := by
                intro w
                rcases Int.lt_or_gt_of_ne ei with v | v
                · have := wd.2.2.2.2 i _ a v hl.1.2
                  rw [hl.2] at this
                  exact this w
                · have := wd.2.2.2.2 _ i hl.1.1 v b
                  rw [hl.2] at this
                  exact this w.symm
              rw [if_neg ei, z1 _ (by omega) (by omega) ne]
          · have := kk (hw h3 148 e 0) (fun o j a b => by rw [hw_ne (by omega), f3 o j a, fr o j a b]) (fun i a b => by
              by_cases ei : i = e
              · rw [hw_eq ⟨rfl, ei⟩]
              · rw [hw_ne (by omega), f3 _ _ (by unfold mSc; omega), z1 i a b ei])
            rw [mSr, show ((99 : Nat) : Int) = 99 from rfl, if_pos (show mG0 r f N P (-1) 0 0 0 < mG0 r f N P (mLi P e P.length) (99 - m) 0 0 from q1)] at this
            rw [show (99 : Int) - ((m + 1 : Nat) : Int) = 99 - m - 1 by omega]
            exact this
          · rw [show (99 : Int) - ((m + 1 : Nat) : Int) = 99 - m - 1 by omega, w32_e (x := (99 : Int) - m - 1 + 1) (by omega) (by omega), show (99 : Int) - m - 1 + 1 = 99 - m by omega, w32_e (by omega) (by omega)]
            refine ih (by omega) _ (fun o j a b => by rw [hw_ne (by omega), f3 o j a, fr o j a b]) (fun i a b ne => by rw [hw_ne (by omega), f3 _ _ (by unfold mSc; omega), z1 i a b ne]) (hw_eq ⟨rfl, rfl⟩) (fun h' a b => ?_)
            have := kk h' a b
            rw [mSr, show ((99 : Nat) : Int) = 99 from rfl, if_neg (show ¬ mG0 r f N P (-1) 0 0 0 < mG0 r f N P (mLi P e P.length) (99 - m) 0 0 by omega)] at this
            exact this
      have := key 99 (Nat.le_refl _) (hw h1 148 e 1) (fun o j a b => by rw [hw_ne (by omega), f1 o j a]) (fun i a b ne => by rw [hw_ne (by omega), f1 _ _ (by unfold mSc; omega), hmo i a b]) (hw_eq ⟨rfl, rfl⟩) k'
      exact this
    · have kk := k h1 (fun o j a b => f1 o j a) (fun i a b => by rw [f1 _ _ (by unfold mSc; omega), hmo i a b])
      by_cases q1 : mLi P e P.length = -1
      · rw [if_pos q1] at kk
        exact kk
      · rw [if_neg q1, if_pos] at kk
        · exact kk
        · rcases hr with ⟨a, b⟩ | ⟨a, b, c⟩
          · exact absurd a q1
          · have := he2.1 _ (show 0 ≤ mLi P e P.length by omega) b
            rw [c] at this
            exact this.mpr q
theorem mSr_s (T : Int → Int) (v : Int) (n m : Nat) : mSr T v n (m + 1) = if v < T ((n : Int) - m) then (n : Int) - m - 1 else mSr T v n m := rfl
theorem mSr_pos (T : Int → Int) (v : Int) (n : Nat) : ∀ m : Nat, m + 1 < n → 0 < mSr T v n (m + 1)
  | 0, h => by
    rw [mSr_s]
    split
    · omega
    · rw [mSr]
      omega
  | m + 1, h => by
    rw [mSr_s]
    split
    · omega
    · exact mSr_pos T v n m (by omega)
theorem mSr_01 (T : Int → Int) (v : Int) (n : Nat) (hn : 2 ≤ n) : mSr T v n n = 0 ↔ v < T 1 := by
  obtain ⟨m, rfl⟩ : ∃ m, n = m + 1 + 1 := ⟨n - 2, by omega⟩
  rw [mSr_s]
  have e : ((m + 1 + 1 : Nat) : Int) - ((m + 1 : Nat) : Int) = 1 := by omega
  rw [e]
  have := mSr_pos T v (m + 1 + 1) m (by omega)
  split <;> omega
theorem mSl_01 {r : zH} {f : Int → Int} {N : Nat} {P : List (Int × Int)} {e : Int} : mSl r f N P e 99 = 0 ↔ mSl r f N P e 1 = 0 := by
  unfold mSl
  by_cases q : mLi P e P.length = -1
  · rw [if_pos q, if_pos q]
  · rw [if_neg q, if_neg q]
    by_cases q1 : mG0 r f N P (-1) 0 3 (mLi P e P.length) = -1
    · rw [if_pos q1, if_pos q1]
    · rw [if_neg q1, if_neg q1]
      generalize (fun x => mG0 r f N P (mLi P e P.length) x 0 0) = T
      generalize mG0 r f N P (-1) 0 0 0 = v
      rw [mSr_01 _ _ 99 (by decide)]
      rw [mSr_s, mSr]
      have e2 : ((1 : Nat) : Int) - ((0 : Nat) : Int) = 1 := rfl
      rw [e2]
      split
      · exact ⟨fun _ => rfl, fun _ => by assumption⟩
      · exact ⟨fun w => by contradiction, fun w => absurd w (by decide)⟩
theorem s_282 {d c : Nat} {h : zH} {R : Int → Nat → zH → Prop} {X : Nat → Nat → zH → Prop} {r : zH} {f : Int → Int} {N : Nat} {P : List (Int × Int)} (md : mD h r f N P) (wd : wD r f N P) (hmo : ∀ i : Int, 0 ≤ i → i < 12 → h 148 i = 0) (k : ∀ h', (∀ o j, ¬ mSc o j → o ≠ 148 → h' o j = (hw h 113 0 0) o j) → (∀ i : Int, 0 ≤ i → i < 12 → h' 148 i = 0) → R (mUr r f N P (r 0 1).toNat) c h') : zCl (d + 6) 282 [(2, 113)] c h R X := by
  have hdd := wr_d wd.1
  have ur : ∀ n : Nat, n ≤ 12 → 0 ≤ mUr r f N P n ∧ mUr r f N P n < 2 ^ 12 := by
    intro n
    induction n with
    | zero =>
      intro _
      rw [mUr]
      decide
    | succ n ih =>
      intro hn
      have := ih (by omega)
      rw [mUr]
      split
      · exact zOr_r (by decide) this.1 this.2 (by omega) (by omega)
      · exact this
  refine b_282 ?_
  refine zDown (W := fun n => ∀ h2, (∀ o j, ¬ mSc o j → o ≠ 148 → h2 o j = (hw h 113 0 0) o j) → (∀ i : Int, 0 ≤ i → i < 12 → h2 148 i = 0) → zWp (d + 6) 282 9 [(2, 113), (0, mUr r f N P n), (0, (n : Int))] [] (zTS c h2) (zQ 1 R X)) (r 0 1).toNat ?_ ?_ 0 (Nat.zero_le _) (hw h 113 0 0) (fun _ _ _ _ => rfl) (fun i a b => by rw [hw_ne (by omega), hmo i a b])
  · intro h2 fr z
    have md2 : mD h2 r f N P := mD_fr (fun o j q => by rw [fr o j (mCs' q) (by unfold mCell at q; omega), hw_ne (by unfold mCell at q; omega)]) md
    refine b_282_9 ⟨fun _ => k h2 fr z, fun q => ?_⟩
    rw [mr_d md2.1] at q
    omega
  · intro n hn ih h2 fr z
    have md2 : mD h2 r f N P := mD_fr (fun o j q => by rw [fr o j (mCs' q) (by unfold mCell at q; omega), hw_ne (by unfold mCell at q; omega)]) md
    rw [mUr] at ih
    refine b_282_9 ⟨fun q => ?_, fun _ => s_281 md2 wd (by omega) z (fun h3 fr3 z3 => ⟨fun q => ?_, fun q => ?_⟩)⟩
    · rw [mr_d md2.1] at q
      omega
    · rw [if_neg (fun w => q (mSl_01.mpr w))] at ih
      have u := ur n (by omega)
      have e0 : zOr (mUr r f N P n) 0 = mUr r f N P n := by
        rw [zOr_I u.1 (by omega) (by omega) (by omega)]
        simp
        omega
      rw [w32_s (by omega), e0]
      exact ih h3 (fun o j a b => by rw [fr3 o j a b, fr o j a b]) z3
    · rw [if_pos (mSl_01.mp q)] at ih
      rw [w32_s (by omega)]
      exact ih h3 (fun o j a b => by rw [fr3 o j a b, fr o j a b]) z3
/-! evenings -/
abbrev mEv (r : zH) (f : Int → Int) (N : Nat) (P : List (Int × Int)) (sd : Int) : zH := mGo r f N P (r 0 7) (-1) 0 sd P.length
theorem cSc5 {h : zH} {a b c e : Int} (o j : Int) (q : ¬ cSc o j) : (hw (hw (hw (hw h 4 2 a) 4 3 b) 4 4 c) 4 5 e) o j = h o j := by
  unfold cSc at q
  rw [hw_ne (by omega), hw_ne (by omega), hw_ne (by omega), hw_ne (by omega)]
theorem s_21e {d c : Nat} {h : zH} {R : Int → Nat → zH → Prop} {X : Nat → Nat → zH → Prop} {t l p : Int} {r : zH} {f : Int → Int} {N : Nat} {P : List (Int × Int)} {sd v : Int} (cd : cD t l p h r f N P) (wd : wD r f N P) (hv : v = r 0 7) (k : ∀ h', (∀ o j, ¬ cSc o j → h' o j = h o j) → cGoS h' (mEv r f N P sd) P.length → R 0 c h') : zCl (d + 5) 21 [(2, 4), (2, t), (2, l), (2, p)] c (hw (hw (hw (hw h 4 2 (-1)) 4 3 0) 4 4 v) 4 5 sd) R X := by
  obtain ⟨_, ⟨ht, hl, hp⟩, m1, m2, m3⟩ := cD_fr (h' := hw (hw (hw (hw h 4 2 (-1)) 4 3 0) 4 4 v) 4 5 sd) (fun o j q => cSc5 o j (cCs q)) cd
  have x2 : (hw (hw (hw (hw h 4 2 (-1)) 4 3 0) 4 4 v) 4 5 sd) 4 2 = -1 := by rw [hw_ne (by omega), hw_ne (by omega), hw_ne (by omega), hw_eq ⟨rfl, rfl⟩]
  have x3 : (hw (hw (hw (hw h 4 2 (-1)) 4 3 0) 4 4 v) 4 5 sd) 4 3 = 0 := by rw [hw_ne (by omega), hw_ne (by omega), hw_eq ⟨rfl, rfl⟩]
  have x4 : (hw (hw (hw (hw h 4 2 (-1)) 4 3 0) 4 4 v) 4 5 sd) 4 4 = r 0 7 := by rw [hw_ne (by omega), hw_eq ⟨rfl, rfl⟩, hv]
  have x5 : (hw (hw (hw (hw h 4 2 (-1)) 4 3 0) 4 4 v) 4 5 sd) 4 5 = sd := hw_eq ⟨rfl, rfl⟩
  refine s_21 ht hl hp m1 wd.1 m2 wd.2.1 m3 wd.2.2 (by rw [x3]; decide) (fun h' f1 f2 g => k h' (fun o j q => by rw [f1 o j (by unfold cSc at q; omega) (by unfold zIsL at hl; unfold cSc at q; omega) (by unfold zIsL at hl; unfold cSc at q; omega), cSc5 o j q]) ?_)
  rw [x2, x3, x4, x5] at g
  obtain ⟨g1, g2, g3, g4, g5, g6⟩ := g
  exact ⟨g1, g2, fun k a b => ⟨(g5 k a b).2.2, (g5 k a b).2.1⟩, g6⟩
theorem s_267e {d c : Nat} {h : zH} {R : Int → Nat → zH → Prop} {X : Nat → Nat → zH → Prop} {r : zH} {f : Int → Int} {N : Nat} {P : List (Int × Int)} {sd : Int} (md : mD h r f N P) (wd : wD r f N P) (hmo : ∀ i : Int, 0 ≤ i → i < 12 → h 148 i = 0) (k : ∀ h', (∀ o j, ¬ mSc o j → h' o j = h o j) → mGoS h' (mEv r f N P sd) P.length → R (mEv r f N P sd 0 0) c h') : zCl (d + 4) 267 [(2, 113), (0, 1)] c (hw h 113 68 sd) R X := by
  have hdd := wr_d wd.1
  obtain ⟨m1, m2, m3⟩ := mD_fr (h' := hw h 113 68 sd) (fun o j q => by unfold mCell at q; rw [hw_ne (by omega)]) md
  refine s_267 (sp := r 0 7) (xl := -1) (xb := 0) (sd := sd) m1 wd.1 m2 wd.2.1 m3 wd.2.2 (by decide) rfl (fun _ => rfl) (fun _ => hw_eq ⟨rfl, rfl⟩) (fun i a b => ?_) (fun h' f1 g => k h' (fun o j q => ?_) ⟨g.1, g.2.2.1, fun k a b => ⟨(g.2.2.2.1 k a b).2.2, (g.2.2.2.1 k a b).2.1⟩, g.2.2.2.2⟩)
  · have := wd.2.2.2.1 i a b
    rw [hw_ne (by omega), hmo _ (by omega) (by omega)]
    split <;> rfl
  · unfold mSc at q
    rw [f1 o j q, hw_ne (by omega)]
theorem s_201 {d c : Nat} {h : zH} {R : Int → Nat → zH → Prop} {X : Nat → Nat → zH → Prop} {V : Int → Int} (hV : ∀ k : Int, 0 ≤ k → k < 4 → h 10 k = V k ∧ 0 ≤ V k ∧ V k ≤ 10000) (k : R (mSum V 4) c h) : zCl d 201 [(2, 4)] c h R X := by
  refine b_201 ?_
  refine zDown (W := fun m => zWp d 201 4 [(2, 4), (0, mSum V m), (0, (m : Int))] [] (zTS c h) (zQ 1 R X)) 4 ?_ ?_ 0 (Nat.zero_le _)
  · exact b_201_4 ⟨fun _ => k, fun q => by omega⟩
  · intro m hm ih
    have b := mSum_le (f := V) (b := 10000) (n := m) (fun k hk => (hV k (by omega) (by omega)).2)
    have v := hV m (by omega) (by omega)
    refine b_201_4 ⟨fun q => by omega, fun _ => ⟨by omega, ?_⟩⟩
    rw [v.1, w32_s (by omega), w32_e (by omega) (by omega)]
    exact ih
theorem s_322 {d c : Nat} {h : zH} {R : Int → Nat → zH → Prop} {X : Nat → Nat → zH → Prop} {V : Int → Int} {n : Nat} (hn : n ≤ 4) (hp : h 113 32 = n) (hV : ∀ k : Int, 0 ≤ k → k < 4 → h 146 k = V k ∧ 0 ≤ V k ∧ V k ≤ 10000) (k : R (mSum V n) c h) : zCl d 322 [(2, 113)] c h R X := by
  refine b_322 ?_
  refine zDown (W := fun m => zWp d 322 4 [(2, 113), (0, mSum V m), (0, (m : Int))] [] (zTS c h) (zQ 1 R X)) n ?_ ?_ 0 (Nat.zero_le _)
  · exact b_322_4 ⟨fun _ => k, fun q => by omega⟩
  · intro m hm ih
    have b := mSum_le (f := V) (b := 10000) (n := m) (fun k hk => (hV k (by omega) (by omega)).2)
    have v := hV m (by omega) (by omega)
    refine b_322_4 ⟨fun q => by omega, fun _ => ⟨by omega, ?_⟩⟩
    rw [v.1, w32_s (by omega), w32_e (by omega) (by omega)]
    exact ih
/-- the least of the values 0 .. n -/
def eMin (V : Int → Int) : Nat → Int
  | 0 => V 0
  | n + 1 => if V (n + 1 : Nat) < eMin V n then V (n + 1 : Nat) else eMin V n
def eL (r : zH) (f : Int → Int) (N : Nat) (P : List (Int × Int)) (sd : Int) (i : Int) : Int := mEv r f N P (w32 (sd + i)) 0 0
def eA (r : zH) (f : Int → Int) (N : Nat) (P : List (Int × Int)) (sd : Int) (i : Int) : Int := if mEv r f N P (w32 (sd + i)) 0 1 = 0 then 1 else 0
/-- what many evenings answer -/
def mEvs (r : zH) (f : Int → Int) (N : Nat) (P : List (Int × Int)) (sd : Int) (n : Nat) (wh : Int) : Int := if wh = 0 then eMin (eL r f N P sd) n else if wh = 1 then mMo (eL r f N P sd) (n + 1) else if wh = 2 then mSum (eL r f N P sd) (n + 1) else mSum (eA r f N P sd) (n + 1)
theorem eL_r {r : zH} {f : Int → Int} {N : Nat} {P : List (Int × Int)} (wd : wD r f N P) (sd i : Int) : 0 ≤ eL r f N P sd i ∧ eL r f N P sd i ≤ 4800 := by
  have g := mGo_ok (f := f) (N := N) (sp := r 0 7) (xl := -1) (xb := 0) (sd := w32 (sd + i)) wd.1 wd.2.2 (by decide) P.length (Nat.le_refl _)
  have h12 := wd.2.2.1
  have := g.1
  show 0 ≤ mGo r f N P (r 0 7) (-1) 0 (w32 (sd + i)) P.length 0 0 ∧ mGo r f N P (r 0 7) (-1) 0 (w32 (sd + i)) P.length 0 0 ≤ 4800
  omega
theorem eA_r (r : zH) (f : Int → Int) (N : Nat) (P : List (Int × Int)) (sd i : Int) : 0 ≤ eA r f N P sd i ∧ eA r f N P sd i ≤ 1 := by
  unfold eA
  split <;> omega
theorem eMin_r {V : Int → Int} (h : ∀ i : Int, 0 ≤ V i) : ∀ n : Nat, 0 ≤ eMin V n
  | 0 => h 0
  | n + 1 => by
    have := eMin_r h n
    have := h (n + 1 : Nat)
    rw [eMin]
    split <;> omega
theorem s_203_32 {d c : Nat} {h : zH} {R : Int → Nat → zH → Prop} {X : Nat → Nat → zH → Prop} {t l p sd wh : Int} {n : Nat} {r : zH} {f : Int → Int} {N : Nat} {P : List (Int × Int)} (hn : n < 40) (cd : cD t l p h r f N P) (wd : wD r f N P) (k : ∀ h', (∀ o j, ¬ cSc o j → h' o j = h o j) → R (mEvs r f N P sd n wh) c h') : zWp (d + 6) 203 32 [(2, 1), (0, sd), (0, ((n + 1 : Nat) : Int)), (0, wh), (0, 2147483647), (0, 0), (0, 0), (0, 0), (0, 0)] [] (zTS c h) (zQ 1 R X) := by
  obtain ⟨ht, hl, hp⟩ := cd.2.1
  have lr := eL_r wd sd
  have ar := eA_r r f N P sd
  -- one evening more
  have one : ∀ (i : Nat) (a b g u : Int) (h2 : zH), i ≤ n → (∀ o j, ¬ cSc o j → h2 o j = h o j) → (0 ≤ g ∧ g ≤ 1000000) → (0 ≤ u ∧ u ≤ 1000) → (∀ h3, (∀ o j, ¬ cSc o j → h3 o j = h o j) → zWp (d + 6) 203 32 [(2, 1), (0, sd), (0, ((n + 1 : Nat) : Int)), (0, wh), (0, if eL r f N P sd i < a then eL r f N P sd i else a), (0, if b < eL r f N P sd i then eL r f N P sd i else b), (0, g + eL r f N P sd i), (0, u + eA r f N P sd i), (0, ((i + 1 : Nat) : Int))] [] (zTS c h3) (zQ 1 R X)) → zWp (d + 6) 203 32 [(2, 1), (0, sd), (0, ((n + 1 : Nat) : Int)), (0, wh), (0, a), (0, b), (0, g), (0, u), (0, (i : Int))] [] (zTS c h2) (zQ 1 R X) := by
    intro i a b g u h2 hi fr hg hu kk
    have cd2 : cD t l p h2 r f N P := cD_fr (fun o j q => fr o j (cCs q)) cd
    obtain ⟨e5, e7, e9⟩ := cd2.1
    have l1 := lr i
    have a1 := ar i
    refine b_203_32 ht hl hp ⟨fun q => by omega, fun _ => ⟨e5, e5, e7, e9, s_21e cd2 wd (cr_loses cd2.2.2.1) (fun h3 f3 g3 => ?_)⟩⟩
    have k3 := kk h3 (fun o j q => by rw [f3 o j q, fr o j q])
    rw [g3.1, g3.2.1]
    have el : mEv r f N P (w32 (sd + (i : Int))) 0 0 = eL r f N P sd i := rfl
    rw [el, w32_s (by omega), w32_e (x := g + _) (by omega) (by omega)]
    refine ⟨fun q => ?_, fun q => ?_⟩
    · have ea : eA r f N P sd i = 0 := by
        unfold eA
        rw [if_neg q]
      rw [ea] at k3
      rw [w32_e (by omega) (by omega)]
      exact k3
    · have ea : eA r f N P sd i = 1 := by
        unfold eA
        rw [if_pos q]
      rw [ea] at k3
      rw [w32_e (by omega) (by omega)]
      exact k3
  have rest := zDown (W := fun i => ∀ h2, (∀ o j, ¬ cSc o j → h2 o j = h o j) → zWp (d + 6) 203 32 [(2, 1), (0, sd), (0, ((n + 1 : Nat) : Int)), (0, wh), (0, eMin (eL r f N P sd) i), (0, mMo (eL r f N P sd) (i + 1)), (0, mSum (eL r f N P sd) (i + 1)), (0, mSum (eA r f N P sd) (i + 1)), (0, ((i + 1 : Nat) : Int))] [] (zTS c h2) (zQ 1 R X)) n ?_ ?_ 0 (Nat.zero_le _)
  · refine one 0 _ _ _ _ h (by omega) (fun _ _ _ => rfl) (by omega) (by omega) (fun h3 fr => ?_)
    have := rest h3 fr
    have l0 := lr 0
    rw [if_pos (show eL r f N P sd ((0 : Nat) : Int) < 2147483647 by have := lr ((0 : Nat) : Int); omega)]
    exact this
  · intro h2 fr
    have kk := k h2 fr
    unfold mEvs at kk
    refine b_203_32 ht hl hp ⟨fun _ => ⟨fun q => ?_, fun q => ⟨fun q1 => ?_, fun q1 => ⟨fun q2 => ?_, fun q2 => ?_⟩⟩⟩, fun q => by omega⟩
    · rw [if_pos q] at kk; exact kk
    · rw [if_neg q, if_pos q1] at kk; exact kk
    · rw [if_neg q, if_neg q1, if_pos q2] at kk; exact kk
    · rw [if_neg q, if_neg q1, if_neg q2] at kk; exact kk
  · intro i hi ih h2 fr
    have s1 := mSum_le (f := eL r f N P sd) (b := 4800) (n := i + 1) (fun k _ => lr k)
    have s2 := mSum_le (f := eA r f N P sd) (b := 1) (n := i + 1) (fun k _ => ar k)
    exact one (i + 1) _ _ _ _ h2 (by omega) fr (by omega) (by omega) (fun h3 fr3 => ih h3 fr3)
theorem s_323_55 {d c : Nat} {h : zH} {R : Int → Nat → zH → Prop} {X : Nat → Nat → zH → Prop} {sd wh : Int} {n : Nat} {r : zH} {f : Int → Int} {N : Nat} {P : List (Int × Int)} (hn : n < 40) (md : mD h r f N P) (wd : wD r f N P) (hmo : ∀ i : Int, 0 ≤ i → i < 12 → h 148 i = 0) (k : ∀ h', (∀ o j, ¬ mSc o j → h' o j = h o j) → R (mEvs r f N P sd n wh) c h') : zWp (d + 5) 323 55 [(2, 113), (0, sd), (0, ((n + 1 : Nat) : Int)), (0, wh), (0, (-1)), (0, 0), (0, 0), (0, 0), (0, 0), (9, 0)] [] (zTS c h) (zQ 1 R X) := by
  have lr := eL_r wd sd
  have ar := eA_r r f N P sd
  have one : ∀ (i : Nat) (a b g u : Int) (h2 : zH), i ≤ n → (∀ o j, ¬ mSc o j → h2 o j = h o j) → (0 ≤ g ∧ g ≤ 1000000) → (0 ≤ u ∧ u ≤ 1000) → (∀ h3, (∀ o j, ¬ mSc o j → h3 o j = h o j) → zWp (d + 5) 323 55 [(2, 113), (0, sd), (0, ((n + 1 : Nat) : Int)), (0, wh), (0, if a = -1 ∨ eL r f N P sd i < a then eL r f N P sd i else a), (0, if b < eL r f N P sd i then eL r f N P sd i else b), (0, g + eL r f N P sd i), (0, u + eA r f N P sd i), (0, ((i + 1 : Nat) : Int)), (9, 0)] [] (zTS c h3) (zQ 1 R X)) → zWp (d + 5) 323 55 [(2, 113), (0, sd), (0, ((n + 1 : Nat) : Int)), (0, wh), (0, a), (0, b), (0, g), (0, u), (0, (i : Int)), (9, 0)] [] (zTS c h2) (zQ 1 R X) := by
    intro i a b g u h2 hi fr hg hu kk
    have md2 : mD h2 r f N P := mD_fr (fun o j q => fr o j (mCs' q)) md
    have l1 := lr i
    have a1 := ar i
    refine b_323_55 ⟨fun q => by omega, fun _ => s_267e md2 wd (fun i a b => by rw [fr _ _ (by unfold mSc; omega), hmo i a b]) (fun h3 f3 g3 => ?_)⟩
    have k3 := kk h3 (fun o j q => by rw [f3 o j q, fr o j q])
    have el : mEv r f N P (w32 (sd + (i : Int))) 0 0 = eL r f N P sd i := rfl
    rw [el]
    have at96 : ∀ v, v = (if a = -1 ∨ eL r f N P sd i < a then eL r f N P sd i else a) → zWp (d + 5) 323 96 [(2, 113), (0, sd), (0, ((n + 1 : Nat) : Int)), (0, wh), (0, a), (0, b), (0, g), (0, u), (0, (i : Int)), (0, eL r f N P sd i)] [(0, v)] (zTS c h3) (zQ 1 R X) := by
      intro v hv
      have at112 : ∀ w, w = (if b < eL r f N P sd i then eL r f N P sd i else b) → zWp (d + 5) 323 112 [(2, 113), (0, sd), (0, ((n + 1 : Nat) : Int)), (0, wh), (0, v), (0, b), (0, g), (0, u), (0, (i : Int)), (0, eL r f N P sd i)] [(0, w)] (zTS c h3) (zQ 1 R X) := by
        intro w hw'
        refine b_323_112 ?_
        rw [g3.1, w32_e (x := g + _) (by omega) (by omega)]
        refine ⟨fun q => b_323_135 ?_, fun q => b_323_135 ?_⟩
        · have ea : eA r f N P sd i = 0 := by
            unfold eA
            rw [if_neg q]
          rw [ea, ← hv, ← hw'] at k3
          rw [w32_s (by omega), w32_e (by omega) (by omega)]
          exact k3
        · have ea : eA r f N P sd i = 1 := by
            unfold eA
            rw [if_pos q]
          rw [ea, ← hv, ← hw'] at k3
          rw [w32_s (by omega), w32_e (by omega) (by omega)]
          exact k3
      exact b_323_96 ⟨fun q => at112 _ (by rw [if_neg (by omega)]), fun q => at112 _ (by rw [if_pos q])⟩
    exact ⟨fun q => b_323_89 (at96 _ (by rw [if_pos (Or.inl q)])), fun q => ⟨fun q1 => at96 _ (by rw [if_neg (by omega)]), fun q1 => b_323_89 (at96 _ (by rw [if_pos (Or.inr q1)]))⟩⟩
  have rest := zDown (W := fun i => ∀ h2, (∀ o j, ¬ mSc o j → h2 o j = h o j) → zWp (d + 5) 323 55 [(2, 113), (0, sd), (0, ((n + 1 : Nat) : Int)), (0, wh), (0, eMin (eL r f N P sd) i), (0, mMo (eL r f N P sd) (i + 1)), (0, mSum (eL r f N P sd) (i + 1)), (0, mSum (eA r f N P sd) (i + 1)), (0, ((i + 1 : Nat) : Int)), (9, 0)] [] (zTS c h2) (zQ 1 R X)) n ?_ ?_ 0 (Nat.zero_le _)
  · refine one 0 _ _ _ _ h (by omega) (fun _ _ _ => rfl) (by omega) (by omega) (fun h3 fr => ?_)
    have := rest h3 fr
    rw [if_pos (Or.inl rfl)]
    exact this
  · intro h2 fr
    have kk := k h2 fr
    unfold mEvs at kk
    refine b_323_55 ⟨fun _ => ⟨fun q => ⟨fun q1 => ⟨fun q2 => ?_, fun q2 => ?_⟩, fun q1 => ?_⟩, fun q => ?_⟩, fun q => by omega⟩
    · rw [if_neg q, if_neg q1, if_neg q2] at kk; exact kk
    · rw [if_neg q, if_neg q1, if_pos q2] at kk; exact kk
    · rw [if_neg q, if_pos q1] at kk; exact kk
    · rw [if_pos q] at kk; exact kk
  · intro i hi ih h2 fr
    have s1 := mSum_le (f := eL r f N P sd) (b := 4800) (n := i + 1) (fun k _ => lr k)
    have s2 := mSum_le (f := eA r f N P sd) (b := 1) (n := i + 1) (fun k _ => ar k)
    refine one (i + 1) _ _ _ _ h2 (by omega) fr (by omega) (by omega) (fun h3 fr3 => ?_)
    have := ih h3 fr3
    rw [eMin] at this
    have mn := eMin_r (V := eL r f N P sd) (fun i => (lr i).1) i
    by_cases q : eL r f N P sd ((i + 1 : Nat) : Int) < eMin (eL r f N P sd) i
    · rw [if_pos q] at this
      rw [if_pos (Or.inr q)]
      exact this
    · rw [if_neg q] at this
      rw [if_neg (by omega)]
      exact this
