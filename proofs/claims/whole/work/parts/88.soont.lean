/-! the soonest plan: twins -/
def sG (a b x : Int) : Int := if zb x a = zb x b then x else zXor x (zOr (zShl 1 a) (zShl 1 b))
theorem sG_z0 : ∀ x : Nat, x < 16 → ∀ a : Nat, a < 4 → ∀ b : Nat, b < 4 → ∀ i : Nat, i < 12 → zb (sG a b x) i = zb x (zsw a b i) := by decide +kernel
theorem sG_o0 : ∀ x : Nat, x < 16 → ∀ a : Nat, a < 4 → ∀ b : Nat, b < 4 → mOnes (sG a b x) = mOnes x := by decide +kernel
theorem sG_r0 (P : Nat) (hP : P < 5) : ∀ x : Nat, x < 2 ^ P → ∀ a : Nat, a < P → ∀ b : Nat, b < P → 1 ≤ x → (1 ≤ sG a b x ∧ sG a b x < ((2 ^ P : Nat) : Int)) := by
  have : P = 0 ∨ P = 1 ∨ P = 2 ∨ P = 3 ∨ P = 4 := by omega
  rcases this with e | e | e | e | e <;> subst e <;> decide +kernel
theorem sG_l0 : ∀ x : Nat, x < 16 → ∀ a : Nat, a < 4 → ∀ b : Nat, b < a → zb x a = 1 → zb x b = 0 → sG a b x < x := by decide +kernel
theorem sG_x0 : ∀ x : Nat, x < 16 → ∀ a : Nat, a < 4 → ∀ b : Nat, b < a → (mOnes (zAnd x (zOr (zShl 1 a) (zShl 1 b))) = 1 → sG a b x = zXor x (zOr (zShl 1 a) (zShl 1 b))) ∧ (mOnes (zAnd x (zOr (zShl 1 a) (zShl 1 b))) ≠ 1 → sG a b x = x) := by decide +kernel
theorem zDj0 : ∀ x : Nat, x < 16 → ∀ y : Nat, y < 16 → zAnd x y = 0 → ∀ p : Nat, p < 4 → ¬ (zb x p = 1 ∧ zb y p = 1) := by decide +kernel
theorem sNx_e {r : zH} (wr : wRoad r) : (sNx r : Int) = 2 ^ (r 0 0).toNat - 1 ∧ sNx r ≤ 15 ∧ (zShl 1 (r 0 0) = sNx r + 1) := by
  have wp := wr_p wr
  have h := zShl_p (d := r 0 0) (by omega) (by omega)
  have e : r 0 0 = 0 ∨ r 0 0 = 1 ∨ r 0 0 = 2 ∨ r 0 0 = 3 ∨ r 0 0 = 4 := by omega
  unfold sNx
  rcases e with e | e | e | e | e <;> rw [e] <;> decide +kernel
theorem nat_of {x : Int} (h : 0 ≤ x) : ∃ n : Nat, x = n := ⟨x.toNat, by omega⟩
theorem mMx_u {F g : Int → Int} : ∀ {n k : Nat}, k < n → g k = 1 → F k ≤ mMx F g n
  | 0, k, h, _ => by omega
  | n + 1, k, h, hg => by
    rw [mMx]
    by_cases e : k = n
    · subst e
      rw [if_pos hg]
      unfold zMx
      split
      · omega
      · omega
    · have := mMx_u (F := F) (g := g) (n := n) (k := k) (by omega) hg
      split
      · unfold zMx
        split
        · omega
        · omega
      · exact this
theorem mMx_l {F g : Int → Int} {b : Int} (hb : 0 ≤ b) : ∀ {n : Nat}, (∀ k : Nat, k < n → g k = 1 → F k ≤ b) → mMx F g n ≤ b
  | 0, _ => hb
  | n + 1, h => by
    rw [mMx]
    have := mMx_l hb (n := n) (fun k a c => h k (by omega) c)
    split
    · rename_i w
      have := h n (by omega) w
      unfold zMx
      split
      · omega
      · omega
    · exact this
theorem zsw_n {a b i n : Nat} (ha : a < n) (hb : b < n) (hi : i < n) : ∃ j : Nat, j < n ∧ zsw a b i = j ∧ zsw a b j = i := by
  unfold zsw
  by_cases e1 : i = a
  · subst e1
    refine ⟨b, hb, by rw [if_pos rfl], ?_⟩
    by_cases e2 : b = i
    · rw [if_pos (by omega)]
      omega
    · rw [if_neg (by omega), if_pos rfl]
  · by_cases e2 : i = b
    · subst e2
      exact ⟨a, ha, by rw [if_neg (by omega), if_pos rfl], by rw [if_pos rfl]⟩
    · exact ⟨i, hi, by rw [if_neg (by omega), if_neg (by omega)], by rw [if_neg (by omega), if_neg (by omega)]⟩
theorem mMx_sw {F F' g g' : Int → Int} {a b n : Nat} (ha : a < n) (hb : b < n) (hF : ∀ i : Nat, i < n → F' i = F (zsw a b i)) (hg : ∀ i : Nat, i < n → g' i = g (zsw a b i)) : mMx F' g' n = mMx F g n := by
  apply Int.le_antisymm
  · refine mMx_l (mMx_ge F g n) (fun k hk gk => ?_)
    obtain ⟨j, j1, j2, j3⟩ := zsw_n ha hb hk
    rw [hg k hk, j2] at gk
    rw [hF k hk, j2]
    exact mMx_u j1 gk
  · refine mMx_l (mMx_ge F' g' n) (fun k hk gk => ?_)
    obtain ⟨j, j1, j2, j3⟩ := zsw_n ha hb hk
    have e1 := hF j j1
    have e2 := hg j j1
    rw [j3] at e1 e2
    rw [← e1]
    exact mMx_u j1 (by rw [e2]; exact gk)
theorem sum_sw {g : Int → Int} : ∀ n : Nat, n ≤ 4 → ∀ a b : Nat, a < n → b < n → mSum (fun i => g (zsw a b i)) n = mSum g n := by
  intro n hn a b ha hb
  have hn' : n = 0 ∨ n = 1 ∨ n = 2 ∨ n = 3 ∨ n = 4 := by omega
  have ha' : a = 0 ∨ a = 1 ∨ a = 2 ∨ a = 3 := by omega
  have hb' : b = 0 ∨ b = 1 ∨ b = 2 ∨ b = 3 := by omega
  rcases hn' with e | e | e | e | e <;> subst e <;> rcases ha' with e | e | e | e <;> subst e <;> rcases hb' with e | e | e | e <;> subst e <;> first | omega | (simp [mSum, zsw]; done) | (simp [mSum, zsw]; omega)
theorem mStr_sw {r : zH} {a b x : Int} (wr : wRoad r) (ha : 0 ≤ a ∧ a < r 0 0) (hb : 0 ≤ b ∧ b < r 0 0) (hx : 0 ≤ x ∧ x < 16) (e : r 1 a = r 1 b) : mStr r (sG a b x) = mStr r x := by
  have wp := wr_p wr
  obtain ⟨x, rfl⟩ := nat_of hx.1
  obtain ⟨a, rfl⟩ := nat_of ha.1
  obtain ⟨b, rfl⟩ := nat_of hb.1
  unfold mStr
  rw [← sum_sw (g := fun p => zb x p * r 1 p) (r 0 0).toNat (by omega) a b (by omega) (by omega)]
  refine mSum_congr (fun k hk => ?_)
  rw [sG_z0 x (by omega) a (by omega) b (by omega) k (by omega)]
  have : r 1 (zsw a b k) = r 1 k := by
    unfold zsw
    split
    · rename_i w
      rw [w, e]
    · split
      · rename_i w
        rw [w, e]
      · rfl
  rw [this]
def sTw (r : zH) (f : Int → Int) (N : Nat) (a b : Int) : Prop := (∀ d x : Int, 0 ≤ d → d < r 0 1 → 1 ≤ x → x ≤ sNx r → (mCan r (sG a b x) d ↔ mCan r x d)) ∧ ∀ d x c : Int, 1 ≤ x → x ≤ sNx r → mLf r f N d (sG a b x) c = mLf r f N d x c
theorem sTw_s {r : zH} {f : Int → Int} {N : Nat} {a b : Int} (wr : wRoad r) (ha : 0 ≤ a ∧ a < r 0 0) (hb : 0 ≤ b ∧ b < r 0 0) (e : r 1 a = r 1 b) : sTw r f N a b := by
  have wp := wr_p wr
  have nx := (sNx_e wr).2.1
  have on : ∀ x : Int, 1 ≤ x → x ≤ sNx r → mOnes (sG a b x) = mOnes x := by
    intro x h1 h2
    obtain ⟨x, rfl⟩ := nat_of (x := x) (by omega)
    obtain ⟨a, rfl⟩ := nat_of ha.1
    obtain ⟨b, rfl⟩ := nat_of hb.1
    exact sG_o0 x (by omega) a (by omega) b (by omega)
  refine ⟨fun d x _ _ h1 h2 => ?_, fun d x c h1 h2 => ?_⟩
  · unfold mCan
    rw [on x h1 h2, mStr_sw wr ha hb (by omega) e]
  · unfold mLf mFa
    rw [mStr_sw wr ha hb (by omega) e]
theorem mStk_2 {f F F' : Int → Int} (h : ∀ j, j ≠ 2 → F j = F' j) : ∀ n : Nat, (∀ k : Nat, k < n → f k ≠ 1002) → ∀ j, mStk f F n j = mStk f F' n j
  | 0, _, _ => rfl
  | n + 1, hn, j => by
    have ih := mStk_2 (f := f) h n (fun k hk => hn k (by omega))
    have := hn n (by omega)
    rw [mStk_s, mStk_s, ih, ih, ih, h (f n - 1000) (by omega)]
theorem sTw_n {r : zH} {f : Int → Int} {N : Nat} {a b : Int} (wr : wRoad r) (ha : 0 ≤ a ∧ a < r 0 0) (hb : 0 ≤ b ∧ b < a) (hf : ∀ k : Nat, k < N → f k ≠ 1002) (hc : ∀ d x : Int, 0 ≤ d → d < r 0 1 → 1 ≤ x → x ≤ sNx r → mOnes (zAnd x (zOr (zShl 1 a) (zShl 1 b))) = 1 → (mCan r x d ↔ mCan r (zXor x (zOr (zShl 1 a) (zShl 1 b))) d)) : sTw r f N a b := by
  have wp := wr_p wr
  have nx := (sNx_e wr).2.1
  have hx0 : ∀ x : Int, 1 ≤ x → x ≤ sNx r → (mOnes (zAnd x (zOr (zShl 1 a) (zShl 1 b))) = 1 → sG a b x = zXor x (zOr (zShl 1 a) (zShl 1 b))) ∧ (mOnes (zAnd x (zOr (zShl 1 a) (zShl 1 b))) ≠ 1 → sG a b x = x) := by
    intro x h1 h2
    obtain ⟨x, rfl⟩ := nat_of (x := x) (by omega)
    obtain ⟨a, rfl⟩ := nat_of ha.1
    obtain ⟨b, rfl⟩ := nat_of hb.1
    exact sG_x0 x (by omega) a (by omega) b (by omega)
  refine ⟨fun d x d0 d1 h1 h2 => ?_, fun d x c h1 h2 => ?_⟩
  · have := hx0 x h1 h2
    by_cases w : mOnes (zAnd x (zOr (zShl 1 a) (zShl 1 b))) = 1
    · rw [this.1 w]
      exact (hc d x d0 d1 h1 h2 w).symm
    · rw [this.2 w]
  · unfold mLf
    rw [mStk_2 (F' := mFa r d x c) (fun j hj => ?_) N hf]
    unfold mFa
    rw [if_neg hj, if_neg hj]
def sTv (a b : Int) (s t : sS) : Prop := (∀ k : Int, 0 ≤ k → k < 12 → s.1 k = t.1 k) ∧ (∀ p : Int, 0 ≤ p → p < 4 → t.2.1 p = s.2.1 (zsw a b p)) ∧ s.2.2.1 = t.2.2.1
theorem sTv_b {r : zH} {f : Int → Int} {N : Nat} {a b d x : Int} {s t : sS} (wr : wRoad r) (ha : 0 ≤ a ∧ a < r 0 0) (hb : 0 ≤ b ∧ b < r 0 0) (tw : sTw r f N a b) (hd : 0 ≤ d ∧ d < r 0 1) (hx : 1 ≤ x ∧ x ≤ sNx r) (e : sTv a b s t) : sBg r t d (sG a b x) = sBg r s d x := by
  have wp := wr_p wr
  have wd := wr_d wr
  have nx := (sNx_e wr).2.1
  have c1 : mDn t.1 (zb (r 6 d)) d.toNat = mDn s.1 (zb (r 6 d)) d.toNat := mDn_congr (fun k hk => (e.1 k (by omega) (by omega)).symm)
  have c2 : mMx t.2.1 (zb (sG a b x)) (r 0 0).toNat = mMx s.2.1 (zb x) (r 0 0).toNat := by
    obtain ⟨x, rfl⟩ := nat_of (x := x) (by omega)
    obtain ⟨a, rfl⟩ := nat_of ha.1
    obtain ⟨b, rfl⟩ := nat_of hb.1
    exact mMx_sw (a := a) (b := b) (by omega) (by omega) (fun i hi => e.2.1 i (by omega) (by omega)) (fun i hi => sG_z0 x (by omega) a (by omega) b (by omega) i (by omega))
  have c3 := tw.1 d x hd.1 hd.2 hx.1 hx.2
  have bg : mBeg r t.1 t.2.1 d (sG a b x) = mBeg r s.1 s.2.1 d x := by
    unfold mBeg
    rw [c1, c2]
  unfold sBg mEar
  by_cases w : mCan r x d
  · rw [if_pos w, if_pos (c3.mpr w), bg]
  · rw [if_neg w, if_neg (fun v => w (c3.mp v))]
theorem sTv_s {r : zH} {f : Int → Int} {N : Nat} {a b d x : Int} {s t : sS} (wr : wRoad r) (ha : 0 ≤ a ∧ a < r 0 0) (hb : 0 ≤ b ∧ b < r 0 0) (tw : sTw r f N a b) (hd : 0 ≤ d ∧ d < r 0 1) (hx : 1 ≤ x ∧ x ≤ sNx r) (e : sTv a b s t) : sTv a b (sSt r f N s d x) (sSt r f N t d (sG a b x)) := by
  have wp := wr_p wr
  have nx := (sNx_e wr).2.1
  have b1 := sTv_b wr ha hb tw hd hx e
  have n1 : sEn r f N t d (sG a b x) = sEn r f N s d x := by
    unfold sEn
    rw [b1, tw.2 d x _ hx.1 hx.2]
  refine ⟨fun k u v => ?_, fun p u v => ?_, ?_⟩
  · show (if k = d then sEn r f N s d x else s.1 k) = if k = d then sEn r f N t d (sG a b x) else t.1 k
    rw [n1, e.1 k u v]
  · show (if zb (sG a b x) p = 1 then sEn r f N t d (sG a b x) else t.2.1 p) = if zb x (zsw a b p) = 1 then sEn r f N s d x else s.2.1 (zsw a b p)
    have z : zb (sG a b x) p = zb x (zsw a b p) := by
      obtain ⟨x, rfl⟩ := nat_of (x := x) (by omega)
      obtain ⟨a, rfl⟩ := nat_of ha.1
      obtain ⟨b, rfl⟩ := nat_of hb.1
      obtain ⟨p, rfl⟩ := nat_of u
      exact sG_z0 x (by omega) a (by omega) b (by omega) p (by omega)
    rw [n1, e.2.1 p u v, z]
  · show (zMx s.2.2.1.1 (sEn r f N s d x), s.2.2.1.2 + mOnes x * mWm r d (sBg r s d x) (sEn r f N s d x)) = (zMx t.2.2.1.1 (sEn r f N t d (sG a b x)), t.2.2.1.2 + mOnes (sG a b x) * mWm r d (sBg r t d (sG a b x)) (sEn r f N t d (sG a b x)))
    have on : mOnes (sG a b x) = mOnes x := by
      obtain ⟨x, rfl⟩ := nat_of (x := x) (by omega)
      obtain ⟨a, rfl⟩ := nat_of ha.1
      obtain ⟨b, rfl⟩ := nat_of hb.1
      exact sG_o0 x (by omega) a (by omega) b (by omega)
    rw [n1, b1, e.2.2, on]
theorem sG_r {r : zH} {a b x : Int} (wr : wRoad r) (ha : 0 ≤ a ∧ a < r 0 0) (hb : 0 ≤ b ∧ b < r 0 0) (hx : 1 ≤ x ∧ x ≤ sNx r) : 1 ≤ sG a b x ∧ sG a b x ≤ sNx r := by
  have wp := wr_p wr
  have nx := sNx_e wr
  have p2 : ((2 : Int) ^ (r 0 0).toNat) = ((2 ^ (r 0 0).toNat : Nat) : Int) := by norm_cast
  obtain ⟨x, rfl⟩ := nat_of (x := x) (by omega)
  obtain ⟨a, rfl⟩ := nat_of ha.1
  obtain ⟨b, rfl⟩ := nat_of hb.1
  have := sG_r0 (r 0 0).toNat (by omega) x (by omega) a (by omega) b (by omega) (by omega)
  omega
theorem sTv_cp {r : zH} {f : Int → Int} {N : Nat} {a b : Int} (wr : wRoad r) (ha : 0 ≤ a ∧ a < r 0 0) (hb : 0 ≤ b ∧ b < r 0 0) (tw : sTw r f N a b) : ∀ {k : Nat} {s t z : sS} {q : List (Int × Int)}, sTv a b s t → sCp r f N k s q z → ∃ q' z', sCp r f N k t q' z' ∧ sTv a b z z'
  | 0, s, t, z, q, e, h => ⟨[], t, ⟨rfl, rfl⟩, by rw [h.2]; exact e⟩
  | k + 1, s, t, z, q, e, h => by
    obtain ⟨d, x, q', eq, a1, a2, a3, a4, h⟩ := h
    have wd := wr_d wr
    obtain ⟨q1, z', c, v⟩ := sTv_cp wr ha hb tw (sTv_s wr ha hb tw a1 a2 e) h
    refine ⟨(d, sG a b x) :: q1, z', ⟨d, sG a b x, q1, rfl, a1, sG_r wr ha hb a2, ?_, ?_, c⟩, v⟩
    · rw [← e.1 d a1.1 (by omega)]
      exact a3
    · rw [sTv_b wr ha hb tw a1 a2 e]
      exact a4
/-- nothing ahead of the lines so far is better than the best -/
def sInv (r : zH) (f : Int → Int) (N D : Nat) (s0 s : sS) (B : sB) : Prop := ∀ q z, sCp r f N D s0 q z → sLx q s.2.2.2 → ¬ vlt z.2.2.1 B.1
def sFi (r : zH) (f : Int → Int) (N D k : Nat) (s0 s : sS) (d x : Int) (B : sB) : Prop := sInv r f N D s0 s B ∧ ∀ d' x' q z, plt (d', x') (d, x) → sCp r f N (k + 1) s ((d', x') :: q) z → ¬ vlt z.2.2.1 B.1
theorem sFi_c {r : zH} {f : Int → Int} {N D j k : Nat} {s0 s : sS} {d x : Int} {B : sB} (hQ : s0.2.2.2 = []) (hs : sCp r f N j s0 s.2.2.2 s) (hD : j + (k + 1) = D) (h : sFi r f N D k s0 s d x B) : sInv r f N D s0 (sSt r f N s d x) B := by
  intro q z c l
  have l' : sLx q (s.2.2.2 ++ [(d, x)]) := l
  rcases sLx_a l' with g | ⟨b, q', e, g⟩
  · exact h.1 q z c g
  · subst e
    rw [← hD] at c
    obtain ⟨a, c1, c2⟩ := sCp_spl (sCp_len hs) c
    have := sCp_det hs c1
    subst this
    obtain ⟨b1, b2⟩ := b
    exact h.2 b1 b2 q' z g c2
theorem sXx_r {r : zH} {f : Int → Int} {N k : Nat} {s : sS} {d x : Int} {B : sB} : sXx r f N (sPl r f N k) s d x B = B ∨ vlt (sXx r f N (sPl r f N k) s d x B).1 B.1 := by
  unfold sXx
  split
  · exact Or.inl rfl
  · rcases (sPl_ok (r := r) (f := f) (N := N) k (sSt r f N s d x) B).1 with e | ⟨q, z, c, e, v⟩
    · exact Or.inl e
    · rw [e]
      exact Or.inr v
theorem sFi_x {r : zH} {f : Int → Int} {N D k : Nat} {s0 s : sS} {d x : Int} {B : sB} (h : sFi r f N D k s0 s d x B) : sFi r f N D k s0 s d (x + 1) (sXx r f N (sPl r f N k) s d x B) := by
  have ml : ∀ v : Int × Int, ¬ vlt v B.1 → ¬ vlt v (sXx r f N (sPl r f N k) s d x B).1 := by
    intro v hv
    rcases sXx_r (r := r) (f := f) (N := N) (k := k) (s := s) (d := d) (x := x) (B := B) with e | e
    · rw [e]
      exact hv
    · exact vlt_n hv e
  refine ⟨fun q z c l => ml _ (h.1 q z c l), fun d' x' q z p c => ?_⟩
  by_cases w : plt (d', x') (d, x)
  · exact ml _ (h.2 d' x' q z w c)
  · have e : d' = d ∧ x' = x := by
      unfold plt at w p
      dsimp only at w p
      omega
    obtain ⟨e1, e2⟩ := e
    subst e1 e2
    have c' := sCp_c.mp c
    unfold sXx
    rw [if_neg c'.2.2.2.1]
    exact (sPl_ok (r := r) (f := f) (N := N) k (sSt r f N s d' x') B).2 q z c'.2.2.2.2
theorem sFi_d {r : zH} {f : Int → Int} {N D k : Nat} {s0 s : sS} {d : Int} {B : sB} (h : sFi r f N D k s0 s d (sNx r + 1) B) : sFi r f N D k s0 s (d + 1) 1 B := by
  refine ⟨h.1, fun d' x' q z p c => h.2 d' x' q z ?_ c⟩
  have c' := sCp_c.mp c
  unfold plt at p ⊢
  dsimp only at p ⊢
  omega
theorem sFi_n {r : zH} {f : Int → Int} {N D k : Nat} {s0 s : sS} {d : Int} {B : sB} (hn : s.1 d ≠ -1) (h : sFi r f N D k s0 s d 1 B) : sFi r f N D k s0 s (d + 1) 1 B := by
  refine ⟨h.1, fun d' x' q z p c => h.2 d' x' q z ?_ c⟩
  have c' := sCp_c.mp c
  unfold plt at p ⊢
  dsimp only at p ⊢
  by_cases e : d' = d
  · subst e
    exact absurd c'.2.2.1 hn
  · omega
theorem sFi_0 {r : zH} {f : Int → Int} {N D k : Nat} {s0 s : sS} {B : sB} (h : sInv r f N D s0 s B) : sFi r f N D k s0 s 0 1 B := by
  refine ⟨h, fun d' x' q z p c => ?_⟩
  have c' := sCp_c.mp c
  unfold plt at p
  dsimp only at p
  omega
/-- a line that could stand ahead is left out -/
theorem sSkA {r : zH} {f : Int → Int} {N D j k : Nat} {s0 s : sS} {d x d1 x1 : Int} {A : List (Int × Int)} {B : sB} (wr : wRoad r) (hs : sCp r f N j s0 s.2.2.2 s) (hD : j + (k + 1) = D) (h : sInv r f N D s0 s B) (hA : s.2.2.2 = A ++ [(d1, x1)]) (hd : 0 ≤ d ∧ d < d1) (hx : 1 ≤ x ∧ x ≤ sNx r) (hz : zAnd x x1 = 0) (he : s.1 d = -1) : sXx r f N (sPl r f N k) s d x B = B := by
  have nx := (sNx_e wr).2.1
  unfold sXx
  by_cases w : sBg r s d x = -1
  · rw [if_pos w]
  · rw [if_neg w]
    refine sPl_id (fun q z c => ?_)
    rw [hA] at hs
    have hl := sCp_len hs
    rw [List.length_append] at hl
    simp only [List.length_cons, List.length_nil] at hl
    rw [← hl, ← Nat.zero_add (0 + 1)] at hs
    rw [Nat.zero_add] at hs
    obtain ⟨s1, c1, c2⟩ := sCp_spl (j := A.length) (k := 0 + 1) rfl hs
    obtain ⟨a1, a2, a3, a4, a5⟩ := sCp_c.mp c2
    have es : s = sSt r f N s1 d1 x1 := a5.2
    have he1 : s1.1 d = -1 := by
      rw [es] at he
      have he' : (if d = d1 then sEn r f N s1 d1 x1 else s1.1 d) = -1 := he
      rw [if_neg (by omega)] at he'
      exact he'
    have dj : ∀ p : Int, 0 ≤ p → p < 4 → ¬ (zb x p = 1 ∧ zb x1 p = 1) := by
      intro p p0 p1
      obtain ⟨x, rfl⟩ := nat_of (x := x) (by omega)
      obtain ⟨x1, rfl⟩ := nat_of (x := x1) (by omega)
      obtain ⟨p, rfl⟩ := nat_of p0
      exact zDj0 x (by omega) x1 (by omega) hz p (by omega)
    obtain ⟨g1, g2, g3⟩ := sSw (f := f) (N := N) (s := s1) wr a1 hd dj he1 a4
    rw [← es] at g1 g3
    obtain ⟨z', c3, v⟩ := sEv_cp wr g3 c
    have full : sCp r f N (A.length + (k + 1 + 1)) s0 (A ++ (d, x) :: (d1, x1) :: q) z' := by
      refine sCp_app c1 (sCp_c.mpr ⟨⟨hd.1, by omega⟩, hx, he1, by rw [← g1]; exact w, sCp_c.mpr ⟨a1, a2, ?_, by rw [g2]; exact a4, c3⟩⟩)
      show (if d1 = d then _ else s1.1 d1) = -1
      rw [if_neg (by omega)]
      exact a3
    rw [show A.length + (k + 1 + 1) = D by omega] at full
    have := h _ z' full (by rw [hA]; exact sLx_i (Or.inl hd.2))
    rw [v.2.2]
    exact this
/-- a line of which a twin could be is left out -/
theorem sSkT {r : zH} {f : Int → Int} {N D k : Nat} {s0 s : sS} {d x a b : Int} {B : sB} (wr : wRoad r) (h : sFi r f N D k s0 s d x B) (hd : 0 ≤ d ∧ d < r 0 1) (hx : 1 ≤ x ∧ x ≤ sNx r) (he : s.1 d = -1) (ha : 0 ≤ a ∧ a < r 0 0) (hb : 0 ≤ b ∧ b < a) (tw : sTw r f N a b) (za : zb x a = 1) (zb0 : zb x b = 0) (hF : s.2.1 b = s.2.1 a) : sXx r f N (sPl r f N k) s d x B = B := by
  have wp := wr_p wr
  have nx := (sNx_e wr).2.1
  have hb' : 0 ≤ b ∧ b < r 0 0 := by omega
  unfold sXx
  by_cases w : sBg r s d x = -1
  · rw [if_pos w]
  · rw [if_neg w]
    refine sPl_id (fun q z c => ?_)
    have ts : sTv a b s s := by
      refine ⟨fun _ _ _ => rfl, fun p _ _ => ?_, rfl⟩
      unfold zsw
      split
      · rename_i e
        rw [e, hF]
      · split
        · rename_i e
          rw [e, hF]
        · rfl
    obtain ⟨q', z', c', v⟩ := sTv_cp wr ha hb' tw (sTv_s wr ha hb' tw hd hx ts) c
    have lt : sG a b x < x := by
      obtain ⟨x, rfl⟩ := nat_of (x := x) (by omega)
      obtain ⟨a, rfl⟩ := nat_of ha.1
      obtain ⟨b, rfl⟩ := nat_of hb.1
      exact sG_l0 x (by omega) a (by omega) b (by omega) za zb0
    have := h.2 d (sG a b x) q' z' (Or.inr ⟨rfl, lt⟩) (sCp_c.mpr ⟨hd, sG_r wr ha hb' hx, he, by rw [sTv_b wr ha hb' tw hd hx ts]; exact w, c'⟩)
    rw [v.2.2]
    exact this
