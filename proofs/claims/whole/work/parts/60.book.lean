/-! the book's text -/
theorem nB_i {T : Int → Int} {n a : Int} (h : a ≤ n) : nB T n (nB T n a) = nB T n a := by
  have h1 := run_b (p := isB) (T := T) h
  unfold nB
  by_cases q : run isB T n a < n
  · rw [run_lt q, if_neg]
    rw [run_stop (p := isB) (T := T) (n := n) (n - a).toNat a (by omega) q]
    decide
  · rw [run_n (by omega)]
    omega
theorem nE_i {T : Int → Int} {n a : Int} (h : a ≤ n) : nE T n (nB T n a) = nE T n a := by
  unfold nE
  rw [nB_i h]
theorem nV_i {T : Int → Int} {n a : Int} (h : a ≤ n) : nV T n (nB T n a) = nV T n a := by
  unfold nV
  rw [nB_i h, nE_i h]
theorem nF_i {T : Int → Int} {n a lo hi : Int} (h : a ≤ n) : nF T n (nB T n a) lo hi = nF T n a lo hi := by
  unfold nF
  rw [nB_i h, nE_i h, nV_i h]
theorem nF_K {T : Int → Int} {n a lo hi K PL : Int} (h0 : 0 ≤ a) (h : a ≤ n) (e : nF T n a lo hi = some (K, PL)) : (K = 1 ∨ K = 2) ∧ 0 ≤ PL := by
  have := nBE (T := T) h
  unfold nF at e
  split at e
  · injection e with e
    injection e with e1 e2
    omega
  · split at e
    · injection e with e
      injection e with e1 e2
      omega
    · cases e
theorem nF_v {T : Int → Int} {n a lo hi : Int} (e : nF T n a lo hi = none) : (lo ≤ nV T n a ∧ nV T n a ≤ hi) ∧ nE T n a ≠ nB T n a := by
  unfold nF at e
  split at e
  · cases e
  · split at e
    · cases e
    · rename_i q1 q2
      exact ⟨by omega, q1⟩
theorem xF_K {T : Int → Int} {n a s K PL : Int} (h0 : 0 ≤ a) (h : a ≤ n) (e : xF T n a s = some (K, PL)) : K = 1 ∧ 0 ≤ PL := by
  have := nBE (T := T) h
  unfold xF at e
  split at e
  · cases e
  · injection e with e
    injection e with e1 e2
    omega
theorem xF_n {T : Int → Int} {n a s : Int} (e : xF T n a s = none) : nB T n a < n := by
  unfold xF at e
  split at e
  · rename_i q
    exact q.1
  · cases e
/-- one line of a book at a -/
def mBl (T : Int → Int) (n a : Int) (s : Int → Int) : (Int × Int) ⊕ (Int × Int × Int) := match nF T n a 0 2 with
  | some f => .inl f
  | none => if s (nV T n a) = -1 then (match nF T n (nE T n a) 0 1 with
    | some f => .inl f
    | none => match xF T n (nE T n (nE T n a)) 59 with
      | some f => .inl f
      | none => .inr (nV T n a, nV T n (nE T n a), nB T n (nE T n (nE T n a)) + 1)) else .inl (2, nB T n a)
def mBk (T : Int → Int) (n : Int) : Nat → Int → (Int → Int) → Int → (Int × Int) ⊕ ((Int → Int) × Int)
  | 0, _, s, c => .inr (s, c)
  | m + 1, a, s, c => if nB T n a < n then (match mBl T n a s with
    | .inl f => .inl f
    | .inr x => mBk T n m x.2.2 (fun k => if k = x.1 then x.2.1 else s k) (c + 1)) else .inr (s, c)
theorem mBl_K {T : Int → Int} {n a : Int} {s : Int → Int} {K PL : Int} (h0 : 0 ≤ a) (h : a ≤ n) (e : mBl T n a s = .inl (K, PL)) : (K = 1 ∨ K = 2) ∧ 0 ≤ PL := by
  have b1 := nBE (T := T) h
  have b2 := nBE (T := T) b1.2.2
  unfold mBl at e
  split at e
  · rename_i f e1
    injection e with e
    subst e
    exact nF_K h0 h e1
  · split at e
    · split at e
      · rename_i f e1
        injection e with e
        subst e
        exact nF_K (by omega) b1.2.2 e1
      · split at e
        · rename_i f e1
          injection e with e
          subst e
          have := xF_K (by omega) b2.2.2 e1
          omega
        · cases e
    · injection e with e
      injection e with e1 e2
      omega
theorem s_110 {d c : Nat} {T : Int → Int} {n : Int} (wt : wTape T n) {R : Int → Nat → zH → Prop} {X : Nat → Nat → zH → Prop} {h : zH} {b : Int} {s : Int → Int} (hb : zIsB b) (ct : cTape h T n) (ha : 0 ≤ h 2 2 ∧ h 2 2 ≤ n) (h4 : h 2 4 = 0) (hs : ∀ k : Int, 0 ≤ k → k < 3 → h (b + 1) k = s k) (hc : 0 ≤ h b 1 ∧ h b 1 < 1000) (kf : ∀ K PL, mBl T n (h 2 2) s = .inl (K, PL) → ∀ h', (∀ o j, ¬ cTs o j → h' o j = h o j) → h' 2 4 = K → h' 2 6 = PL → R 0 c h') (ks : ∀ k v a, mBl T n (h 2 2) s = .inr (k, v, a) → (0 ≤ k ∧ k < 3) → (0 ≤ v ∧ v ≤ 1) → (0 ≤ a ∧ a ≤ n) → ∀ h', (∀ o j, ¬ cTs o j → ¬ (o = b + 1 ∧ j = k) → ¬ (o = b ∧ j = 1) → h' o j = h o j) → h' 2 2 = a → h' 2 4 = 0 → h' 2 6 = h 2 6 → h' (b + 1) k = v → h' b 1 = h b 1 + 1 → R 0 c h') : zCl (d + 3) 110 [(2, b), (2, 2)] c h R X := by
  have hb' := hb
  unfold zIsB at hb'
  have b1 := nBE (T := T) ha.2
  -- a fault: the rest of the line is read, and nothing is kept
  have rest : ∀ (K PL y0 : Int) (h1 : zH), mBl T n (h 2 2) s = .inl (K, PL) → (∀ o j, ¬ cTs o j → h1 o j = h o j) → h1 2 4 = K → h1 2 6 = PL → (0 ≤ h1 2 2 ∧ h1 2 2 ≤ n) → zCl (d + 2) 74 [(2, 2), (0, 0), (0, 1)] c h1 (fun y c h => zCl (d + 2) 81 [(2, 2), (0, 59)] c h (fun _ c h => zCl (d + 2) 77 [(2, 2)] c h (fun z c h => (z = 0 → R 0 c h) ∧ (z ≠ 0 → (0 ≤ y0 ∧ y0 < 3) ∧ R 0 c (hw (hw h (b + 1) y0 y) b 1 (w32 ((hw h (b + 1) y0 y) b 1 + 1))))) X) X) X := by
    intro K PL y0 h1 e f1 g4 g6 g2
    have hk := mBl_K ha.1 ha.2 e
    refine s_74u wt (cTape_fr f1 ct) g2 (by omega) (fun y h2 f2 i4 i6 i2 _ => s_81u wt (by decide) (cTape_fr (fun o j q => by rw [f2 o j q, f1 o j q]) ct) i2 (by omega) (fun h3 f3 l4 l6 l2 => b_77 ⟨fun _ => ⟨fun _ => kf K PL e h3 (fun o j q => by rw [f3 o j q, f2 o j q, f1 o j q]) (by omega) (by omega), fun q => absurd rfl q⟩, fun q => by omega⟩))
  refine b_110 hb (s_74 wt ct ha h4 (fun K PL e y h1 f1 g4 g6 g2 _ => ?_) (fun e h1 f1 g2 g3 g4 g6 => ?_))
  · have hk := nF_K ha.1 ha.2 e
    have em : mBl T n (h 2 2) s = .inl (K, PL) := by
      unfold mBl
      rw [e]
    exact b_77 ⟨fun _ => ⟨fun _ => rest K PL y h1 em f1 g4 g6 g2, fun q => absurd rfl q⟩, fun q => by omega⟩
  · have hv := (nF_v e).1
    have b2 := nBE (T := T) b1.2.2
    have eb : h1 (b + 1) (nV T n (h 2 2)) = s (nV T n (h 2 2)) := by
      rw [f1 _ _ (by unfold cTs; omega)]
      exact hs _ hv.1 (by omega)
    refine b_77 ⟨fun q => absurd g4 q, fun _ => ⟨fun q => absurd q (by decide), fun _ => b_45 hb ⟨by omega, fun q => ⟨fun _ => ?_, fun q1 => absurd rfl q1⟩, fun q => ⟨fun q1 => absurd q1 (by decide), fun _ => ?_⟩⟩⟩⟩
    · -- a new sign
      rw [eb] at q
      refine s_74 wt (cTape_fr f1 ct) (by omega) g4 (fun K PL e2 y h2 f2 i4 i6 i2 _ => ?_) (fun e2 h2 f2 i2 i3 i4 i6 => ?_)
      · rw [g2] at e2
        have em : mBl T n (h 2 2) s = .inl (K, PL) := by
          unfold mBl
          rw [e]
          simp only
          rw [if_pos q, e2]
        have hk := nF_K (T := T) (n := n) (by omega) b1.2.2 e2
        refine s_81u wt (by decide) (cTape_fr (fun o j q => by rw [f2 o j q, f1 o j q]) ct) i2 (by omega) (fun h3 f3 l4 l6 l2 => b_77 ⟨fun _ => ⟨fun _ => kf K PL em h3 (fun o j q => by rw [f3 o j q, f2 o j q, f1 o j q]) (by omega) (by omega), fun q => absurd rfl q⟩, fun q => by omega⟩)
      · rw [g2] at e2 i2 ⊢
        have hv2 := (nF_v e2).1
        refine s_81 wt (by decide) (cTape_fr (fun o j q => by rw [f2 o j q, f1 o j q]) ct) (by omega) i4 (fun K PL e3 h3 f3 l4 l6 l2 => ?_) (fun e3 h3 f3 l2 l2' l4 l6 => ?_)
        · rw [i2] at e3
          have em : mBl T n (h 2 2) s = .inl (K, PL) := by
            unfold mBl
            rw [e]
            simp only
            rw [if_pos q, e2]
            simp only
            rw [e3]
          have hk := xF_K (T := T) (n := n) (by omega) b2.2.2 e3
          exact b_77 ⟨fun _ => ⟨fun _ => kf K PL em h3 (fun o j q => by rw [f3 o j q, f2 o j q, f1 o j q]) l4 l6, fun q => absurd rfl q⟩, fun q => by omega⟩
        · rw [i2] at e3 l2
          have em : mBl T n (h 2 2) s = .inr (nV T n (h 2 2), nV T n (nE T n (h 2 2)), nB T n (nE T n (nE T n (h 2 2))) + 1) := by
            unfold mBl
            rw [e]
            simp only
            rw [if_pos q, e2]
            simp only
            rw [e3]
          have fr3 : ∀ o j, ¬ cTs o j → h3 o j = h o j := fun o j q => by rw [f3 o j q, f2 o j q, f1 o j q]
          have e1' : h3 b 1 = h b 1 := fr3 _ _ (by unfold cTs; omega)
          refine b_77 ⟨fun q => absurd l4 q, fun _ => ⟨fun q => absurd q (by decide), fun _ => ⟨by omega, ?_⟩⟩⟩
          rw [hw_ne (o := b + 1) (o' := b) (by omega), e1', w32_e (by omega) (by omega)]
          refine ks _ _ _ em (by omega) (by omega) (by rw [← l2]; exact l2') _ (fun o j q1 q2 q3 => by rw [hw_ne (by omega), hw_ne (by omega), fr3 o j q1]) ?_ ?_ ?_ ?_ (hw_eq ⟨rfl, rfl⟩)
          · rw [hw_ne (by omega), hw_ne (by omega), l2]
          · rw [hw_ne (by omega), hw_ne (by omega), l4]
          · rw [hw_ne (by omega), hw_ne (by omega), l6, i6, g6]
          · rw [hw_ne (by omega), hw_eq ⟨rfl, rfl⟩]
    · -- the sign was told
      rw [eb] at q
      have em : mBl T n (h 2 2) s = .inl (2, nB T n (h 2 2)) := by
        unfold mBl
        rw [e]
        simp only
        rw [if_neg q]
      refine b_71 (s_72 (fun w => absurd g4 w) (fun _ => ?_))
      rw [g3]
      refine rest 2 _ _ _ em (fun o j w => ?_) ?_ (hw_eq ⟨rfl, rfl⟩) ?_
      · have := cTs2 w
        rw [hw_ne (by omega), hw_ne (by omega), f1 o j w]
      · rw [hw_ne (by omega), hw_eq ⟨rfl, rfl⟩]
      · rw [hw_ne (by omega), hw_ne (by omega), g2]
        omega
/-- how many signs are told -/
def mCt (s : Int → Int) : Int := (if s 0 = -1 then 0 else 1) + (if s 1 = -1 then 0 else 1) + (if s 2 = -1 then 0 else 1)
theorem mCt_r (s : Int → Int) : 0 ≤ mCt s ∧ mCt s ≤ 3 := by
  unfold mCt
  repeat' split
  all_goals omega
theorem mCt_u {s : Int → Int} {k v : Int} (hk : 0 ≤ k ∧ k < 3) (h0 : s k = -1) (hv : v ≠ -1) : mCt (fun j => if j = k then v else s j) = mCt s + 1 := by
  unfold mCt
  rcases (by omega : k = 0 ∨ k = 1 ∨ k = 2) with e | e | e <;> subst e
  · simp only [if_true, if_neg (show ¬ (1 : Int) = 0 by decide), if_neg (show ¬ (2 : Int) = 0 by decide), h0, if_neg hv]
    omega
  · simp only [if_true, if_neg (show ¬ (0 : Int) = 1 by decide), if_neg (show ¬ (2 : Int) = 1 by decide), h0, if_neg hv]
    omega
  · simp only [if_true, if_neg (show ¬ (0 : Int) = 2 by decide), if_neg (show ¬ (1 : Int) = 2 by decide), h0, if_neg hv]
    omega
theorem mBl_s {T : Int → Int} {n a : Int} {s : Int → Int} {k v a' : Int} (e : mBl T n a s = .inr (k, v, a')) : s k = -1 := by
  unfold mBl at e
  split at e
  · cases e
  · split at e
    · rename_i q
      split at e
      · cases e
      · split at e
        · cases e
        · injection e with e
          injection e with e1 e2
          rw [← e1]
          exact q
    · cases e
