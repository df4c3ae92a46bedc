/-! the plan's text: the data -/
theorem xF_i {T : Int → Int} {n a s : Int} (h : a ≤ n) : xF T n (nB T n a) s = xF T n a s := by
  unfold xF
  rw [nB_i h]
/-- the people of a line at a, as bits, and where the reading stands then -/
def mPp (T : Int → Int) (n np a : Int) : (Int × Int) ⊕ (Int × Int) := match nF T n a 0 (np - 1) with
  | some f => .inl f
  | none => if nB T n (nE T n a) < n ∧ isD (T (nB T n (nE T n a))) = true then (match nF T n (nE T n a) 0 (np - 1) with
    | some f => .inl f
    | none => if nV T n (nE T n a) = nV T n a then .inl (2, nB T n (nE T n a)) else .inr (zOr (zShl 1 (nV T n a)) (zShl 1 (nV T n (nE T n a))), nE T n (nE T n a))) else .inr (zShl 1 (nV T n a), nB T n (nE T n a))
def mPl (T : Int → Int) (n nd np a : Int) (P : List (Int × Int)) : (Int × Int) ⊕ (Int × Int × Int) := match nF T n a 0 (nd - 1) with
  | some f => .inl f
  | none => if mLi P (nV T n a) P.length = -1 then (match mPp T n np (nE T n a) with
    | .inl f => .inl f
    | .inr x => match xF T n x.2 59 with
      | some f => .inl f
      | none => .inr (nV T n a, x.1, nB T n x.2 + 1)) else .inl (2, nB T n a)
def mPk (T : Int → Int) (n nd np : Int) : Nat → Int → List (Int × Int) → (Int × Int) ⊕ List (Int × Int)
  | 0, _, P => .inr P
  | m + 1, a, P => if nB T n a < n then (match mPl T n nd np a P with
    | .inl f => .inl f
    | .inr x => mPk T n nd np m x.2.2 (P ++ [(x.1, x.2.1)])) else .inr P
theorem mPp_K {T : Int → Int} {n np a K PL : Int} (h0 : 0 ≤ a) (h : a ≤ n) (e : mPp T n np a = .inl (K, PL)) : (K = 1 ∨ K = 2) ∧ 0 ≤ PL := by
  have b1 := nBE (T := T) h
  have b2 := nBE (T := T) b1.2.2
  unfold mPp at e
  split at e
  · rename_i f e1
    injection e with e
    subst e
    exact nF_K h0 h e1
  · split at e
    · split at e
      · rename_i f e1
        injection e with e
        subst e
        exact nF_K (by omega) b1.2.2 e1
      · split at e
        · injection e with e
          injection e with e1 e2
          omega
        · cases e
    · cases e
theorem mPp_r {T : Int → Int} {n np a x y : Int} (hnp : 0 ≤ np ∧ np ≤ 4) (h0 : 0 ≤ a) (h : a ≤ n) (e : mPp T n np a = .inr (x, y)) : (0 ≤ y ∧ y ≤ n) ∧ (0 ≤ x ∧ x < 2 ^ np.toNat) := by
  have b1 := nBE (T := T) h
  have b2 := nBE (T := T) b1.2.2
  have sh : ∀ v : Int, 0 ≤ v → v ≤ np - 1 → 0 ≤ zShl 1 v ∧ zShl 1 v < 2 ^ np.toNat := by
    intro v v0 v1
    have z : zOr 0 (zShl 1 v) = zShl 1 v := by
      rw [zShl_p v0 (by omega)]
      have : (0 : Int) ≤ 2 ^ v.toNat := Int.pow_nonneg (by decide)
      have h31 := two12 (k := v.toNat) (by omega)
      rw [zOr_I (by decide) (by decide) this (by omega)]
      simp
      omega
    have := zOr_r (x := 0) (d := v) (n := np.toNat) (by omega) (by decide) (Int.pow_pos (by decide)) v0 (by omega)
    rw [z] at this
    exact this
  unfold mPp at e
  split at e
  · cases e
  · rename_i e1
    have v1 := (nF_v e1).1
    split at e
    · split at e
      · cases e
      · rename_i e2
        have v2 := (nF_v e2).1
        split at e
        · cases e
        · injection e with e
          injection e with e3 e4
          have s1 := sh _ v1.1 v1.2
          refine ⟨by omega, ?_⟩
          rw [← e3]
          exact zOr_r (by omega) s1.1 s1.2 v2.1 (by omega)
    · injection e with e
      injection e with e3 e4
      refine ⟨by omega, ?_⟩
      rw [← e3]
      exact sh _ v1.1 v1.2
theorem mPl_K {T : Int → Int} {n nd np a K PL : Int} {P : List (Int × Int)} (hnp : 0 ≤ np ∧ np ≤ 4) (h0 : 0 ≤ a) (h : a ≤ n) (e : mPl T n nd np a P = .inl (K, PL)) : (K = 1 ∨ K = 2) ∧ 0 ≤ PL := by
  have b1 := nBE (T := T) h
  unfold mPl at e
  split at e
  · rename_i f e1
    injection e with e
    subst e
    exact nF_K h0 h e1
  · split at e
    · split at e
      · rename_i f e1
        injection e with e
        subst e
        exact mPp_K (by omega) b1.2.2 e1
      · rename_i x e1
        obtain ⟨x1, x2⟩ := x
        have r := mPp_r hnp (by omega) b1.2.2 e1
        split at e
        · rename_i f e2
          injection e with e
          subst e
          have := xF_K r.1.1 r.1.2 e2
          omega
        · cases e
    · injection e with e
      injection e with e1 e2
      omega
theorem mPl_r {T : Int → Int} {n nd np a k v y : Int} {P : List (Int × Int)} (hnp : 0 ≤ np ∧ np ≤ 4) (h0 : 0 ≤ a) (h : a ≤ n) (e : mPl T n nd np a P = .inr (k, v, y)) : (0 ≤ k ∧ k < nd) ∧ (0 ≤ v ∧ v < 2 ^ np.toNat) ∧ (0 ≤ y ∧ y ≤ n) ∧ mLi P k P.length = -1 := by
  have b1 := nBE (T := T) h
  unfold mPl at e
  split at e
  · cases e
  · rename_i e0
    have v0 := (nF_v e0).1
    split at e
    · rename_i q
      split at e
      · cases e
      · rename_i x e1
        obtain ⟨x1, x2⟩ := x
        have r := mPp_r hnp (by omega) b1.2.2 e1
        split at e
        · cases e
        · rename_i e2
          have xn := xF_n e2
          have b2 := nBE (T := T) r.1.2
          injection e with e
          injection e with e3 e4
          injection e4 with e4 e5
          simp only at e4 e5 xn r b2
          refine ⟨by omega, by rw [← e4]; exact r.2, by omega, ?_⟩
          rw [← e3]
          exact q
    · cases e
theorem pD_app {P : List (Int × Int)} {x : Int × Int} {k : Int} (h0 : 0 ≤ k) (h1 : k ≤ P.length) : pD (P ++ [x]) k = (if k < P.length then pD P k else x.1) ∧ pB (P ++ [x]) k = (if k < P.length then pB P k else x.2) := by
  unfold pD pB
  by_cases q : k < P.length
  · rw [if_pos q, if_pos q, List.getD_eq_getElem?_getD, List.getElem?_append_left (by omega), List.getD_eq_getElem?_getD]
    exact ⟨rfl, rfl⟩
  · have e : k.toNat = P.length := by omega
    rw [if_neg q, if_neg q, e, List.getD_eq_getElem?_getD, List.getElem?_append_right (Nat.le_refl _)]
    simp
theorem len_app (P : List (Int × Int)) (x : Int × Int) : (P ++ [x]).length = P.length + 1 := by simp
theorem cPlan_app {p : Int} {h h' : zH} {P : List (Int × Int)} {k v : Int} (m : cPlan p h P) (e5 : h' p 5 = (P.length : Int) + 1) (f4 : ∀ j : Int, 0 ≤ j → j < P.length → h' (p + 4) j = h (p + 4) j ∧ h' (p + 5) j = h (p + 5) j) (e4 : h' (p + 4) P.length = k ∧ h' (p + 5) P.length = v) : cPlan p h' (P ++ [(k, v)]) := by
  refine ⟨by rw [len_app, e5]; omega, fun j a b => ?_⟩
  rw [len_app] at b
  have pa := pD_app (P := P) (x := (k, v)) a (by omega)
  rw [pa.1, pa.2]
  by_cases q : j < P.length
  · rw [if_pos q, if_pos q, (f4 j a q).1, (f4 j a q).2]
    exact m.2 j a q
  · have ej : j = P.length := by omega
    rw [if_neg q, if_neg q, ej]
    exact e4
/-- the deeds of a plan, as bits -/
def gnP (P : List (Int × Int)) : Nat → Int
  | 0 => 0
  | k + 1 => zOr (gnP P k) (zShl 1 (pD P k))
theorem mSum_upd {f g : Int → Int} {e : Int} : ∀ n : Nat, (∀ k : Nat, k < n → g k = if (k : Int) = e then f k + 1 else f k) → mSum g n = mSum f n + if 0 ≤ e ∧ e < n then 1 else 0
  | 0, _ => by
    rw [mSum, mSum, if_neg (by omega)]
    rfl
  | n + 1, h => by
    have h1 := mSum_upd n (fun k hk => h k (by omega))
    have h2 := h n (by omega)
    rw [mSum, mSum, h1, h2]
    repeat' split
    all_goals omega
theorem ones_or {x e : Int} (hx : 0 ≤ x ∧ x < 4096) (he : 0 ≤ e ∧ e < 12) (h0 : zb x e = 0) : mOnes (zOr x (zShl 1 e)) = mOnes x + 1 := by
  unfold mOnes
  rw [mSum_upd (f := fun p => zb x p) (e := e) 12 (fun k hk => ?_), if_pos (by omega)]
  rw [zb_or hx.1 (by omega) he.1 (by omega) (by omega) (by omega)]
  split
  · rename_i q
    rw [q, h0]
    rfl
  · rfl
/-- a plan so far: distinct deeds that are told -/
def wPl (nd np : Int) (P : List (Int × Int)) : Prop := (∀ k : Int, 0 ≤ k → k < P.length → (0 ≤ pD P k ∧ pD P k < nd) ∧ (0 ≤ pB P k ∧ pB P k < 2 ^ np.toNat)) ∧ ∀ i j : Int, 0 ≤ i → i < j → j < P.length → pD P i ≠ pD P j
theorem gnP_ok {nd np : Int} {P : List (Int × Int)} (hnd : nd ≤ 12) (w : wPl nd np P) : ∀ k : Nat, k ≤ P.length → (0 ≤ gnP P k ∧ gnP P k < 4096) ∧ mOnes (gnP P k) = k ∧ ∀ e : Int, 0 ≤ e → e < 12 → (zb (gnP P k) e = 1 ↔ ∃ j : Int, 0 ≤ j ∧ j < k ∧ pD P j = e)
  | 0, _ => by
    refine ⟨by rw [gnP]; decide, by rw [gnP]; decide, fun e e0 e1 => ⟨fun q => ?_, fun ⟨j, a, b, _⟩ => by omega⟩⟩
    rw [gnP] at q
    have := zb_hi (x := 0) (p := e) (n := 0) (by decide) (by decide) (by decide) (by omega) (by omega)
    omega
  | k + 1, hk => by
    obtain ⟨h1, h2, h3⟩ := gnP_ok hnd w k (by omega)
    have d := (w.1 k (by omega) (by omega)).1
    have z : zb (gnP P k) (pD P k) = 0 := by
      rcases zb01 (gnP P k) (pD P k) with q | q
      · exact q
      · obtain ⟨j, a, b, e⟩ := (h3 _ d.1 (by omega)).mp q
        exact absurd e (w.2 j k a b (by omega))
    rw [gnP]
    refine ⟨zOr_r (n := 12) (by decide) h1.1 h1.2 d.1 (by omega), by rw [ones_or h1 ⟨d.1, by omega⟩ z, h2]; omega, fun e e0 e1 => ?_⟩
    rw [zb_or h1.1 (by omega) d.1 (by omega) e0 (by omega)]
    by_cases q : e = pD P k
    · rw [if_pos q]
      exact ⟨fun _ => ⟨k, by omega, by omega, q.symm⟩, fun _ => rfl⟩
    · rw [if_neg q, h3 e e0 e1]
      constructor
      · rintro ⟨j, a, b, c⟩
        exact ⟨j, a, by omega, c⟩
      · rintro ⟨j, a, b, c⟩
        refine ⟨j, a, ?_, c⟩
        rcases (by omega : j < k ∨ j = k) with v | v
        · exact v
        · rw [v] at c
          exact absurd c.symm q
theorem ones12 (x : Int) : mOnes x ≤ 12 := by
  have := mSum_le (f := fun p => zb x p) (b := 1) (n := 12) (fun k _ => by have := zb01 x k; omega)
  unfold mOnes
  omega
theorem wPl_12 {nd np : Int} {P : List (Int × Int)} (hnd : nd ≤ 12) (w : wPl nd np P) : P.length ≤ 12 := by
  have h := (gnP_ok hnd w P.length (Nat.le_refl _)).2.1
  have := ones12 (gnP P P.length)
  omega
theorem mLi_no {P : List (Int × Int)} {e : Int} : mLi P e P.length = -1 ↔ ∀ j : Int, 0 ≤ j → j < P.length → pD P j ≠ e := by
  rcases mLi_r (P := P) (e := e) P.length (Nat.le_refl _) with ⟨a, b⟩ | ⟨a, b, c⟩
  · exact ⟨fun _ j j1 j2 => b j (by omega) j2, fun _ => a⟩
  · exact ⟨fun w => by omega, fun w => absurd c (w _ (by omega) b)⟩
theorem wPl_app {nd np k v : Int} {P : List (Int × Int)} (w : wPl nd np P) (hk : 0 ≤ k ∧ k < nd) (hv : 0 ≤ v ∧ v < 2 ^ np.toNat) (hn : mLi P k P.length = -1) : wPl nd np (P ++ [(k, v)]) := by
  have hn := mLi_no.mp hn
  refine ⟨fun j a b => ?_, fun i j a b c => ?_⟩
  · rw [len_app] at b
    have pa := pD_app (P := P) (x := (k, v)) a (by omega)
    rw [pa.1, pa.2]
    by_cases q : j < P.length
    · rw [if_pos q, if_pos q]
      exact w.1 j a q
    · rw [if_neg q, if_neg q]
      exact ⟨hk, hv⟩
  · rw [len_app] at c
    have pi := pD_app (P := P) (x := (k, v)) a (by omega)
    have pj := pD_app (P := P) (x := (k, v)) (k := j) (by omega) (by omega)
    rw [pi.1, pj.1, if_pos (by omega)]
    by_cases q : j < P.length
    · rw [if_pos q]
      exact w.2 i j a b q
    · rw [if_neg q]
      exact hn i a (by omega)
theorem gnP_app {P : List (Int × Int)} {x : Int × Int} : ∀ k : Nat, k ≤ P.length → gnP (P ++ [x]) k = gnP P k
  | 0, _ => rfl
  | k + 1, h => by
    rw [gnP, gnP, gnP_app k (by omega), (pD_app (P := P) (x := x) (k := k) (by omega) (by omega)).1, if_pos (by omega)]
