/-! the tape: runs of bytes, numbers -/
def isB (x : Int) : Bool := decide (x = 32)
def isD (x : Int) : Bool := decide (48 ≤ x) && decide (x ≤ 57)
def isS (x : Int) : Bool := decide (97 ≤ x) && decide (x ≤ 122)
theorem isD_t {x : Int} : isD x = true ↔ 48 ≤ x ∧ x ≤ 57 := by
  unfold isD
  simp
theorem isS_t {x : Int} : isS x = true ↔ 97 ≤ x ∧ x ≤ 122 := by
  unfold isS
  simp
theorem isB_t {x : Int} : isB x = true ↔ x = 32 := by
  unfold isB
  simp
/-- where a run of p's ends that begins at n - m -/
def mRu (p : Int → Bool) (T : Int → Int) (n : Int) : Nat → Int
  | 0 => n
  | m + 1 => if p (T (n - (m + 1 : Nat))) = true then mRu p T n m else n - (m + 1 : Nat)
def run (p : Int → Bool) (T : Int → Int) (n a : Int) : Int := mRu p T n (n - a).toNat
theorem run_n {p : Int → Bool} {T : Int → Int} {n a : Int} (h : n ≤ a) : run p T n a = n := by
  unfold run
  rw [show (n - a).toNat = 0 by omega]
  rfl
theorem run_lt {p : Int → Bool} {T : Int → Int} {n a : Int} (h : a < n) : run p T n a = if p (T a) = true then run p T n (a + 1) else a := by
  unfold run
  rw [show (n - a).toNat = (n - (a + 1)).toNat + 1 by omega, mRu, show n - (((n - (a + 1)).toNat + 1 : Nat) : Int) = a by omega]
theorem run_r {p : Int → Bool} {T : Int → Int} {n : Int} : ∀ (m : Nat) (a : Int), n - a = m → a ≤ run p T n a ∧ run p T n a ≤ n := by
  intro m
  induction m with
  | zero =>
    intro a h
    rw [run_n (by omega)]
    omega
  | succ m ih =>
    intro a h
    rw [run_lt (by omega)]
    split
    · have := ih (a + 1) (by omega)
      omega
    · omega
theorem run_b {p : Int → Bool} {T : Int → Int} {n a : Int} (h : a ≤ n) : a ≤ run p T n a ∧ run p T n a ≤ n := run_r (n - a).toNat a (by omega)
theorem run_stop {p : Int → Bool} {T : Int → Int} {n : Int} : ∀ (m : Nat) (a : Int), n - a = m → run p T n a < n → p (T (run p T n a)) = false := by
  intro m
  induction m with
  | zero =>
    intro a h w
    rw [run_n (by omega)] at w
    omega
  | succ m ih =>
    intro a h w
    by_cases q : p (T a) = true
    · rw [run_lt (by omega), if_pos q] at w ⊢
      exact ih (a + 1) (by omega) w
    · rw [run_lt (by omega), if_neg q]
      simpa using q
theorem run_in {p : Int → Bool} {T : Int → Int} {n : Int} : ∀ (m : Nat) (a : Int), n - a = m → ∀ j, a ≤ j → j < run p T n a → p (T j) = true := by
  intro m
  induction m with
  | zero =>
    intro a h j j1 j2
    rw [run_n (by omega)] at j2
    omega
  | succ m ih =>
    intro a h j j1 j2
    rw [run_lt (by omega)] at j2
    split at j2
    · rename_i q
      by_cases e : j = a
      · rw [e]
        exact q
      · exact ih (a + 1) (by omega) j (by omega) j2
    · omega
/-- a text T of n bytes: the class's tape, the reference's -/
def wTape (T : Int → Int) (n : Int) : Prop := (0 ≤ n ∧ n ≤ 600) ∧ ∀ k : Int, 0 ≤ k → k < n → 0 ≤ T k ∧ T k ≤ 255
def cTape (h : zH) (T : Int → Int) (n : Int) : Prop := h 2 1 = n ∧ ∀ k : Int, 0 ≤ k → k < n → h 3 k = (T k + 128) % 256 - 128
def mTape (h : zH) (T : Int → Int) (n : Int) : Prop := h 113 3 = n ∧ ∀ k : Int, 0 ≤ k → k < n → h 115 k = T k
theorem z255 : ∀ t : Nat, t < 256 → zAnd (((t : Int) + 128) % 256 - 128) 255 = t := by decide +kernel
theorem s_66 {d c : Nat} {T : Int → Int} {n : Int} (wt : wTape T n) {R : Int → Nat → zH → Prop} {X : Nat → Nat → zH → Prop} {h : zH} (ct : cTape h T n) (ha : 0 ≤ h 2 2 ∧ h 2 2 ≤ n) (k : ∀ h', (∀ o j, ¬ (o = 2 ∧ j = 2) → h' o j = h o j) → h' 2 2 = run isB T n (h 2 2) → R (if run isB T n (h 2 2) < n then T (run isB T n (h 2 2)) else -1) c h') : zCl d 66 [(2, 2)] c h R X := by
  have loop : ∀ (m : Nat) (h1 : zH), n - h1 2 2 = m → (∀ o j, ¬ (o = 2 ∧ j = 2) → h1 o j = h o j) → 0 ≤ h1 2 2 → run isB T n (h1 2 2) = run isB T n (h 2 2) → zWp d 66 0 [(2, 2)] [] (zTS c h1) (zQ 1 R X) := by
    intro m
    induction m with
    | zero =>
      intro h1 hm fr h0 he
      have e1 : h1 2 1 = n := by rw [fr _ _ (by omega), ct.1]
      have er : run isB T n (h1 2 2) = n := run_n (by omega)
      have kk := k h1 fr (by rw [← he, er]; omega)
      rw [← he, er, if_neg (by omega)] at kk
      exact b_66_0 ⟨fun _ => ⟨fun _ => kk, fun w => by omega⟩, fun w => by omega⟩
    | succ m ih =>
      intro h1 hm fr h0 he
      have e1 : h1 2 1 = n := by rw [fr _ _ (by omega), ct.1]
      have w1 := wt.1
      have w2 := wt.2 (h1 2 2) h0 (by omega)
      have e3 : h1 3 (h1 2 2) = (T (h1 2 2) + 128) % 256 - 128 := by rw [fr _ _ (by omega), ct.2 _ h0 (by omega)]
      have er := run_lt (p := isB) (T := T) (n := n) (a := h1 2 2) (by omega)
      refine b_66_0 ⟨fun w => by omega, fun _ => ⟨by omega, fun w => ⟨fun w2 => by omega, fun _ => ⟨by omega, ?_⟩⟩, fun w => ?_⟩⟩
      · have nb : ¬ isB (T (h1 2 2)) = true := by
          rw [isB_t]
          omega
        rw [if_neg nb] at er
        have kk := k h1 fr (by rw [← he, er])
        rw [← he, er, if_pos (by omega)] at kk
        have z := z255 (T (h1 2 2)).toNat (by omega)
        rw [Int.toNat_of_nonneg w2.1] at z
        rw [e3, z]
        exact kk
      · have yb : isB (T (h1 2 2)) = true := by
          rw [isB_t]
          omega
        rw [if_pos yb] at er
        rw [w32_e (by omega) (by omega)]
        refine ih _ ?_ (fun o j q => by rw [hw_ne (by omega), fr o j q]) ?_ ?_
        · rw [hw_eq ⟨rfl, rfl⟩]
          omega
        · rw [hw_eq ⟨rfl, rfl⟩]
          omega
        · rw [hw_eq ⟨rfl, rfl⟩, ← he, er]
  exact loop (n - h 2 2).toNat h (by omega) (fun _ _ _ => rfl) ha.1 rfl
theorem s_226 {d c : Nat} {T : Int → Int} {n : Int} (wt : wTape T n) {R : Int → Nat → zH → Prop} {X : Nat → Nat → zH → Prop} {h : zH} (mt : mTape h T n) (ha : 0 ≤ h 113 4 ∧ h 113 4 ≤ n) (k : ∀ h', (∀ o j, ¬ (o = 113 ∧ j = 4) → h' o j = h o j) → h' 113 4 = run isB T n (h 113 4) → R (if run isB T n (h 113 4) < n then T (run isB T n (h 113 4)) else 0) c h') : zCl d 226 [(2, 113)] c h R X := by
  have loop : ∀ (m : Nat) (h1 : zH), n - h1 113 4 = m → (∀ o j, ¬ (o = 113 ∧ j = 4) → h1 o j = h o j) → 0 ≤ h1 113 4 → run isB T n (h1 113 4) = run isB T n (h 113 4) → zWp d 226 0 [(2, 113)] [] (zTS c h1) (zQ 1 R X) := by
    intro m
    induction m with
    | zero =>
      intro h1 hm fr h0 he
      have e1 : h1 113 3 = n := by rw [fr _ _ (by omega), mt.1]
      have er : run isB T n (h1 113 4) = n := run_n (by omega)
      have kk := k h1 fr (by rw [← he, er]; omega)
      rw [← he, er, if_neg (by omega)] at kk
      exact b_226_0 ⟨fun _ => ⟨fun _ => kk, fun w => by omega⟩, fun w => by omega⟩
    | succ m ih =>
      intro h1 hm fr h0 he
      have e1 : h1 113 3 = n := by rw [fr _ _ (by omega), mt.1]
      have w1 := wt.1
      have e3 : h1 115 (h1 113 4) = T (h1 113 4) := by rw [fr _ _ (by omega), mt.2 _ h0 (by omega)]
      have er := run_lt (p := isB) (T := T) (n := n) (a := h1 113 4) (by omega)
      refine b_226_0 ⟨fun w => by omega, fun _ => ⟨by omega, fun w => ⟨fun w2 => by omega, fun _ => ⟨by omega, ?_⟩⟩, fun w => ?_⟩⟩
      · have nb : ¬ isB (T (h1 113 4)) = true := by
          rw [isB_t]
          omega
        rw [if_neg nb] at er
        have kk := k h1 fr (by rw [← he, er])
        rw [← he, er, if_pos (by omega)] at kk
        rw [e3]
        exact kk
      · have yb : isB (T (h1 113 4)) = true := by
          rw [isB_t]
          omega
        rw [if_pos yb] at er
        rw [w32_e (by omega) (by omega)]
        refine ih _ ?_ (fun o j q => by rw [hw_ne (by omega), fr o j q]) ?_ ?_
        · rw [hw_eq ⟨rfl, rfl⟩]
          omega
        · rw [hw_eq ⟨rfl, rfl⟩]
          omega
        · rw [hw_eq ⟨rfl, rfl⟩, ← he, er]
  exact loop (n - h 113 4).toNat h (by omega) (fun _ _ _ => rfl) ha.1 rfl
/-- the value of k digits from b on, as each side caps it -/
def vC (T : Int → Int) (b : Int) : Nat → Int
  | 0 => 0
  | k + 1 => if vC T b k < 1000 then vC T b k * 10 + T (b + k) - 48 else vC T b k
def vM (T : Int → Int) (b : Int) : Nat → Int
  | 0 => 0
  | k + 1 => if 9999 < vM T b k then 10000 else 10 * vM T b k + T (b + k) - 48
theorem v_r {T : Int → Int} {b : Int} : ∀ k : Nat, (∀ j : Int, b ≤ j → j < b + k → 48 ≤ T j ∧ T j ≤ 57) → (0 ≤ vC T b k ∧ vC T b k ≤ 9999) ∧ (0 ≤ vM T b k ∧ vM T b k ≤ 99999) ∧ (vC T b k < 1000 → vM T b k = vC T b k) ∧ (1000 ≤ vC T b k → 1000 ≤ vM T b k)
  | 0, _ => by simp [vC, vM]
  | k + 1, h => by
    have h1 := v_r (T := T) (b := b) k (fun j a c => h j a (by omega))
    have h2 := h (b + k) (by omega) (by omega)
    rw [vC, vM]
    repeat' split
    all_goals omega
/-- what reading a number at a finds: where it begins, where it ends, its value, its fault -/
def nB (T : Int → Int) (n a : Int) : Int := run isB T n a
def nE (T : Int → Int) (n a : Int) : Int := run isD T n (nB T n a)
def nV (T : Int → Int) (n a : Int) : Int := vC T (nB T n a) (nE T n a - nB T n a).toNat
def nF (T : Int → Int) (n a lo hi : Int) : Option (Int × Int) := if nE T n a = nB T n a then some (1, nB T n a) else if nV T n a < lo ∨ hi < nV T n a then some (2, nB T n a) else none
theorem nBE {T : Int → Int} {n a : Int} (h : a ≤ n) : a ≤ nB T n a ∧ nB T n a ≤ nE T n a ∧ nE T n a ≤ n := by
  have h1 := run_b (p := isB) (T := T) h
  have h2 := run_b (p := isD) (T := T) h1.2
  unfold nE nB
  omega
theorem s_72 {d c : Nat} {h : zH} {R : Int → Nat → zH → Prop} {X : Nat → Nat → zH → Prop} {K PL : Int} (k0 : h 2 4 ≠ 0 → R 0 c h) (k1 : h 2 4 = 0 → R 0 c (hw (hw h 2 4 K) 2 6 PL)) : zCl d 72 [(2, 2), (0, K), (0, PL)] c h R X := b_72 ⟨k0, k1⟩
/-- the digits of a number -/
theorem s_74_15 {d c : Nat} {T : Int → Int} {n : Int} (wt : wTape T n) {R : Int → Nat → zH → Prop} {X : Nat → Nat → zH → Prop} {h : zH} {lo hi b : Int} (ct : cTape h T n) (hb : 0 ≤ b ∧ b ≤ n) (hs : h 2 3 = b) (h2 : h 2 2 = b) (k : ∀ h', (∀ o j, ¬ (o = 2 ∧ j = 2) → h' o j = h o j) → h' 2 2 = run isD T n b → (h 2 4 ≠ 0 → R (vC T b (run isD T n b - b).toNat) c h') ∧ (h 2 4 = 0 → (run isD T n b = b → R (vC T b (run isD T n b - b).toNat) c (hw (hw h' 2 4 1) 2 6 b)) ∧ (run isD T n b ≠ b → (vC T b (run isD T n b - b).toNat < lo ∨ hi < vC T b (run isD T n b - b).toNat → R (vC T b (run isD T n b - b).toNat) c (hw (hw h' 2 4 2) 2 6 b)) ∧ (lo ≤ vC T b (run isD T n b - b).toNat ∧ vC T b (run isD T n b - b).toNat ≤ hi → R (vC T b (run isD T n b - b).toNat) c h')))) : zWp (d + 1) 74 15 [(2, 2), (0, lo), (0, hi), (0, 0)] [] (zTS c h) (zQ 1 R X) := by
  have w1 := wt.1
  have hr := run_b (p := isD) (T := T) hb.2
  have fin : ∀ h1, (∀ o j, ¬ (o = 2 ∧ j = 2) → h1 o j = h o j) → h1 2 2 = run isD T n b → (h1 2 2 ≠ h1 2 3 → (vC T b (run isD T n b - b).toNat < lo → zCl d 72 [(2, 2), (0, 2), (0, h1 2 3)] c h1 (fun _ c h => R (vC T b (run isD T n b - b).toNat) c h) X) ∧ (lo ≤ vC T b (run isD T n b - b).toNat → (vC T b (run isD T n b - b).toNat ≤ hi → R (vC T b (run isD T n b - b).toNat) c h1) ∧ (hi < vC T b (run isD T n b - b).toNat → zCl d 72 [(2, 2), (0, 2), (0, h1 2 3)] c h1 (fun _ c h => R (vC T b (run isD T n b - b).toNat) c h) X))) ∧ (h1 2 2 = h1 2 3 → zCl d 72 [(2, 2), (0, 1), (0, h1 2 3)] c h1 (fun _ c h => R (vC T b (run isD T n b - b).toNat) c h) X) := by
    intro h1 fr e2
    have e3 : h1 2 3 = b := by rw [fr _ _ (by omega), hs]
    have e4 : h1 2 4 = h 2 4 := fr _ _ (by omega)
    obtain ⟨k0, k1⟩ := k h1 fr e2
    rw [e2, e3]
    refine ⟨fun q => ⟨fun q1 => s_72 (fun w => k0 (by omega)) (fun w => ((k1 (by omega)).2 q).1 (Or.inl q1)), fun q1 => ⟨fun q2 => ?_, fun q2 => s_72 (fun w => k0 (by omega)) (fun w => ((k1 (by omega)).2 q).1 (Or.inr q2))⟩⟩, fun q => s_72 (fun w => k0 (by omega)) (fun w => (k1 (by omega)).1 q)⟩
    by_cases z : h 2 4 = 0
    · exact ((k1 z).2 q).2 ⟨q1, q2⟩
    · exact k0 z
  have loop : ∀ (m j : Nat) (h1 : zH), (∀ o i, ¬ (o = 2 ∧ i = 2) → h1 o i = h o i) → h1 2 2 = b + j → n - (b + j) = m → run isD T n (b + j) = run isD T n b → (∀ i : Int, b ≤ i → i < b + j → 48 ≤ T i ∧ T i ≤ 57) → zWp (d + 1) 74 15 [(2, 2), (0, lo), (0, hi), (0, vC T b j)] [] (zTS c h1) (zQ 1 R X) := by
    intro m
    induction m with
    | zero =>
      intro j h1 fr e2 hm er dg
      have e1 : h1 2 1 = n := by rw [fr _ _ (by omega), ct.1]
      have en : run isD T n (b + j) = n := run_n (by omega)
      have f := fin h1 fr (by omega)
      rw [show (run isD T n b - b).toNat = j by omega] at f
      exact b_74_15 ⟨fun _ => f, fun w => by omega⟩
    | succ m ih =>
      intro j h1 fr e2 hm er dg
      have e1 : h1 2 1 = n := by rw [fr _ _ (by omega), ct.1]
      have w2 := wt.2 (b + j) (by omega) (by omega)
      have e3 : h1 3 (b + j) = (T (b + j) + 128) % 256 - 128 := by rw [fr _ _ (by omega), ct.2 _ (by omega) (by omega)]
      have el := run_lt (p := isD) (T := T) (n := n) (a := b + j) (by omega)
      have vr := v_r (T := T) (b := b) j dg
      have notd : ¬ isD (T (b + j)) = true → run isD T n b = b + j := by
        intro w
        rw [if_neg w] at el
        omega
      have stop : ¬ isD (T (b + j)) = true → (h1 2 2 ≠ h1 2 3 → (vC T b j < lo → zCl d 72 [(2, 2), (0, 2), (0, h1 2 3)] c h1 (fun _ c h => R (vC T b j) c h) X) ∧ (lo ≤ vC T b j → (vC T b j ≤ hi → R (vC T b j) c h1) ∧ (hi < vC T b j → zCl d 72 [(2, 2), (0, 2), (0, h1 2 3)] c h1 (fun _ c h => R (vC T b j) c h) X))) ∧ (h1 2 2 = h1 2 3 → zCl d 72 [(2, 2), (0, 1), (0, h1 2 3)] c h1 (fun _ c h => R (vC T b j) c h) X) := by
        intro w
        have f := fin h1 fr (by rw [notd w]; exact e2)
        rw [show (run isD T n b - b).toNat = j by rw [notd w]; omega] at f
        exact f
      have go : isD (T (b + j)) = true → ∀ v, v = vC T b (j + 1) → zWp (d + 1) 74 15 [(2, 2), (0, lo), (0, hi), (0, v)] [] (zTS c (hw h1 2 2 (w32 (h1 2 2 + 1)))) (zQ 1 R X) := by
        intro w v hv
        rw [if_pos w] at el
        rw [hv, e2, w32_e (by omega) (by omega)]
        refine ih (j + 1) _ (fun o i q => by rw [hw_ne (by omega), fr o i q]) ?_ (by omega) ?_ (fun i i1 i2 => ?_)
        · rw [hw_eq ⟨rfl, rfl⟩]
          omega
        · rw [show b + ((j + 1 : Nat) : Int) = b + j + 1 by omega, ← el, er]
        · by_cases ei : i = b + j
          · rw [ei]
            exact isD_t.mp w
          · exact dg i i1 (by omega)
      refine b_74_15 ⟨fun w => by omega, fun _ => ⟨by omega, ?_⟩⟩
      rw [e2, e3]
      refine b_75 ⟨fun w => ⟨fun _ => ?_, fun q => absurd rfl q⟩, fun w => ⟨fun w3 => ⟨fun _ => ?_, fun q => absurd rfl q⟩, fun w3 => ⟨fun q => absurd q (by decide), fun _ => ⟨fun q => ?_, fun q => ⟨by omega, ?_⟩⟩⟩⟩⟩
      · have := stop (fun q => by have := isD_t.mp q; omega)
        rw [e2] at this
        rw [e2]
        exact this
      · have := stop (fun q => by have := isD_t.mp q; omega)
        rw [e2] at this
        rw [e2]
        exact this
      · refine go (isD_t.mpr (by omega)) _ ?_
        rw [vC, if_neg (by omega)]
      · rw [e2, e3]
        have := go (isD_t.mpr (by omega)) (w32 (w32 (w32 (vC T b j * 10) + ((T (b + j) + 128) % 256 - 128)) - 48)) (by
          rw [vC, if_pos (by omega), w32_e (x := vC T b j * 10) (by omega) (by omega), w32_e (x := vC T b j * 10 + _) (by omega) (by omega), w32_e (by omega) (by omega)]
          omega)
        rw [e2] at this
        exact this
  have := loop (n - b).toNat 0 h (fun _ _ _ => rfl) (by omega) (by omega) (by rw [show b + ((0 : Nat) : Int) = b by omega]) (fun i i1 i2 => by omega)
  exact this
