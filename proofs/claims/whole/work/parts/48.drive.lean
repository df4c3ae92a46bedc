/-! the drive on a soft spare -/
def dQ (p j : Int) : Int := if p + 10 * j < 100 then p + 10 * j else 99
def dM (q : Int) : Int := if q < 30 then 2 + (39 - q) / 10 else 2
def dT (l : Int) (B : Int → Int) (p j : Int) : Int := 4001 * j + 1000 * dM (dQ p j) + B (dQ p j - l)
/-- the least cost of a mile from pressure p on, with fewer than n pumps -/
def dG (l : Int) (B : Int → Int) (p : Int) : Nat → Int
  | 0 => 2147483647
  | j + 1 => if 5 ≤ dQ p j ∧ dT l B p j < dG l B p j then dT l B p j else dG l B p j
theorem dQ_r {p j : Int} (hp : 0 ≤ p ∧ p ≤ 99) (hj : 0 ≤ j) : p ≤ dQ p j ∧ dQ p j ≤ 99 := by
  unfold dQ
  split <;> omega
theorem dM_r {q : Int} (hq : 0 ≤ q) : 2 ≤ dM q ∧ dM q ≤ 5 := by
  unfold dM
  split <;> omega
theorem dT_r {l M : Int} {B : Int → Int} {p j : Int} (hl : l = 0 ∨ l = 1) (hB : ∀ k : Int, 0 ≤ k → k < 100 → 0 ≤ B k ∧ B k ≤ M) (hp : 0 ≤ p ∧ p ≤ 99) (hj : 0 ≤ j ∧ j ≤ 11) (h5 : 5 ≤ dQ p j) : 0 ≤ dT l B p j ∧ dT l B p j ≤ 4001 * j + 5000 + M := by
  have h1 := dQ_r hp hj.1
  have h2 := dM_r (q := dQ p j) (by omega)
  have h3 := hB (dQ p j - l) (by omega) (by omega)
  unfold dT
  omega
theorem dG_le {l : Int} {B : Int → Int} {p : Int} : ∀ {n : Nat} (j : Nat), j < n → 5 ≤ dQ p j → dG l B p n ≤ dT l B p j
  | 0, j, hj, _ => by omega
  | n + 1, j, hj, h5 => by
    rw [dG]
    by_cases e : j = n
    · subst e
      split <;> omega
    · have := dG_le (l := l) (B := B) (n := n) j (by omega) h5
      split <;> omega
theorem dG_ex {l : Int} {B : Int → Int} {p : Int} : ∀ (n : Nat), dG l B p n = 2147483647 ∨ ∃ j : Nat, j < n ∧ 5 ≤ dQ p j ∧ dG l B p n = dT l B p j
  | 0 => Or.inl rfl
  | n + 1 => by
    rw [dG]
    split
    · rename_i q
      exact Or.inr ⟨n, by omega, q.1, rfl⟩
    · rcases dG_ex (l := l) (B := B) (p := p) n with h | ⟨j, a, b, e⟩
      · exact Or.inl h
      · exact Or.inr ⟨j, by omega, b, e⟩
theorem dG_at {l M : Int} {B : Int → Int} {p : Int} (hl : l = 0 ∨ l = 1) (hM : M ≤ 1000000) (hB : ∀ k : Int, 0 ≤ k → k < 100 → 0 ≤ B k ∧ B k ≤ M) (hp : 0 ≤ p ∧ p ≤ 99) : ∃ j : Nat, j < 11 ∧ 5 ≤ dQ p j ∧ dG l B p 11 = dT l B p j := by
  rcases dG_ex (l := l) (B := B) (p := p) 11 with h | h
  · have h5 : 5 ≤ dQ p 1 := by
      unfold dQ
      split <;> omega
    have a := dG_le (l := l) (B := B) (p := p) (n := 11) 1 (by omega) h5
    have b := dT_r (j := 1) hl hB hp (by omega) h5
    have c : dT l B p ((1 : Nat) : Int) = dT l B p 1 := rfl
    omega
  · exact h
theorem dG_r {l M : Int} {B : Int → Int} {p : Int} (hl : l = 0 ∨ l = 1) (hM : M ≤ 1000000) (hB : ∀ k : Int, 0 ≤ k → k < 100 → 0 ≤ B k ∧ B k ≤ M) (hp : 0 ≤ p ∧ p ≤ 99) : 0 ≤ dG l B p 11 ∧ dG l B p 11 ≤ M + 10000 := by
  obtain ⟨j, a, b, e⟩ := dG_at hl hM hB hp
  have h5 : 5 ≤ dQ p 1 := by
    unfold dQ
    split <;> omega
  have c := dG_le (l := l) (B := B) (p := p) (n := 11) 1 (by omega) h5
  have d := dT_r (j := 1) hl hB hp (by omega) h5
  have f := dT_r (j := j) hl hB hp (by omega) b
  have g : dT l B p ((1 : Nat) : Int) = dT l B p 1 := rfl
  omega
/-- as the class reckons it -/
theorem dG_99 {l M : Int} {B : Int → Int} (hl : l = 0 ∨ l = 1) (hM : M ≤ 1000000) (hB : ∀ k : Int, 0 ≤ k → k < 100 → 0 ≤ B k ∧ B k ≤ M) : dG l B 99 11 = 1000 * dM 99 + B (99 - l) := by
  obtain ⟨j, a, b, e⟩ := dG_at (p := 99) hl hM hB (by omega)
  have q : ∀ i : Nat, dQ 99 i = 99 := by
    intro i
    unfold dQ
    split <;> omega
  have c := dG_le (l := l) (B := B) (p := 99) (n := 11) 0 (by omega) (by rw [q]; omega)
  unfold dT at c e
  rw [q] at c e
  omega
theorem dT_up {l : Int} {B : Int → Int} {p : Int} (hp : 0 ≤ p ∧ p < 99) (j : Nat) : dT l B p ((j + 1 : Nat) : Int) = 4001 + dT l B (if p + 10 < 99 then p + 10 else 99) j ∧ dQ p ((j + 1 : Nat) : Int) = dQ (if p + 10 < 99 then p + 10 else 99) j := by
  have q : dQ p ((j + 1 : Nat) : Int) = dQ (if p + 10 < 99 then p + 10 else 99) j := by
    unfold dQ
    repeat' split
    all_goals omega
  refine ⟨?_, q⟩
  unfold dT
  rw [q]
  omega
theorem dG_rec {l M : Int} {B : Int → Int} {p : Int} (hl : l = 0 ∨ l = 1) (hM : M ≤ 1000000) (hB : ∀ k : Int, 0 ≤ k → k < 100 → 0 ≤ B k ∧ B k ≤ M) (hp : 0 ≤ p ∧ p < 99) : dG l B p 11 = if p < 5 then 4001 + dG l B (if p + 10 < 99 then p + 10 else 99) 11 else if 1000 * dM p + B (p - l) < 4001 + dG l B (if p + 10 < 99 then p + 10 else 99) 11 then 1000 * dM p + B (p - l) else 4001 + dG l B (if p + 10 < 99 then p + 10 else 99) 11 := by
  have hp' : 0 ≤ (if p + 10 < 99 then p + 10 else 99) ∧ (if p + 10 < 99 then p + 10 else 99) ≤ 99 := by split <;> omega
  obtain ⟨j, a, b, e⟩ := dG_at (p := p) hl hM hB (by omega)
  obtain ⟨i, a', b', e'⟩ := dG_at (p := if p + 10 < 99 then p + 10 else 99) hl hM hB hp'
  have u := dT_up (l := l) (B := B) hp
  have z : dQ p 0 = p := by
    unfold dQ
    split <;> omega
  have t0 : dT l B p 0 = 1000 * dM p + B (p - l) := by
    unfold dT
    rw [z]
    omega
  -- the class's pump is no better than the least
  have up1 : dG l B p 11 ≤ 4001 + dG l B (if p + 10 < 99 then p + 10 else 99) 11 := by
    rw [e', ← (u i).1]
    by_cases q : i + 1 < 11
    · exact dG_le (i + 1) q (by rw [(u i).2]; exact b')
    · have hi : i = 10 := by omega
      subst hi
      have q10 : dQ p ((10 : Nat) : Int) = 99 := by
        unfold dQ
        split <;> omega
      have q11 : dQ p ((10 + 1 : Nat) : Int) = 99 := by
        unfold dQ
        split <;> omega
      have := dG_le (l := l) (B := B) (p := p) (n := 11) 10 (by omega) (by rw [q10]; omega)
      unfold dT at this ⊢
      rw [q10] at this
      rw [q11]
      omega
  have up0 : 5 ≤ p → dG l B p 11 ≤ 1000 * dM p + B (p - l) := by
    intro q
    have := dG_le (l := l) (B := B) (p := p) (n := 11) 0 (by omega) (by rw [show dQ p ((0 : Nat) : Int) = p from z]; exact q)
    rw [show dT l B p ((0 : Nat) : Int) = 1000 * dM p + B (p - l) from t0] at this
    exact this
  have lo : (j = 0 ∧ 5 ≤ p ∧ dG l B p 11 = 1000 * dM p + B (p - l)) ∨ 4001 + dG l B (if p + 10 < 99 then p + 10 else 99) 11 ≤ dG l B p 11 := by
    rcases j with _ | j
    · refine Or.inl ⟨rfl, ?_, ?_⟩
      · rw [show dQ p ((0 : Nat) : Int) = p from z] at b
        exact b
      · rw [e]
        exact t0
    · refine Or.inr ?_
      rw [e, (u j).1]
      have := dG_le (l := l) (B := B) (p := if p + 10 < 99 then p + 10 else 99) (n := 11) j (by omega) (by rw [← (u j).2]; exact b)
      omega
  generalize dG l B (if p + 10 < 99 then p + 10 else 99) 11 = v at *
  generalize dG l B p 11 = w at *
  generalize 1000 * dM p + B (p - l) = x at *
  by_cases q : p < 5
  · rw [if_pos q]
    omega
  · rw [if_neg q]
    have := up0 (by omega)
    split <;> omega
def dL (ev m : Int) : Int := if Int.tmod m ev = 0 then 1 else 0
/-- the least cost from each pressure, of the last s of n miles -/
def dK (ev n : Int) : Nat → Int → Int
  | 0 => fun _ => 0
  | s + 1 => fun p => dG (dL ev (n - s)) (dK ev n s) p 11
theorem dL_r (ev m : Int) : dL ev m = 0 ∨ dL ev m = 1 := by
  unfold dL
  split <;> omega
theorem dK_r {ev n : Int} : ∀ s : Nat, s ≤ 30 → ∀ k : Int, 0 ≤ k → k < 100 → 0 ≤ dK ev n s k ∧ dK ev n s k ≤ 10000 * s
  | 0, _, k, _, _ => by
    show (0 : Int) ≤ 0 ∧ (0 : Int) ≤ _
    omega
  | s + 1, hs, k, a, b => by
    have := dG_r (l := dL ev (n - s)) (B := dK ev n s) (p := k) (dL_r _ _) (M := 10000 * s) (by omega) (fun k a b => dK_r s (by omega) k a b) (by omega)
    show 0 ≤ dG _ _ k 11 ∧ dG _ _ k 11 ≤ _
    omega
theorem s_192 {d c : Nat} {h : zH} {R : Int → Nat → zH → Prop} {X : Nat → Nat → zH → Prop} {q : Int} (hq : 0 ≤ q ∧ q ≤ 99) (k : R (dM q) c h) : zCl d 192 [(0, q)] c h R X := by
  unfold dM at k
  refine b_192 ⟨fun w => ?_, fun w => ?_⟩
  · rw [if_pos w] at k
    rw [w32_e (x := 39 - q) (by omega) (by omega), Int.tdiv_eq_ediv_of_nonneg (by omega), w32_e (x := (39 - q) / 10) (by omega) (by omega), w32_e (by omega) (by omega)]
    exact k
  · rw [if_neg (by omega)] at k
    exact k
theorem s_191 {d c : Nat} {h : zH} {R : Int → Nat → zH → Prop} {X : Nat → Nat → zH → Prop} {p l M : Int} {B : Int → Int} (hl : l = 0 ∨ l = 1) (hM : M ≤ 1000000) (hB : ∀ k : Int, 0 ≤ k → k < 100 → 0 ≤ B k ∧ B k ≤ M) (hp : 0 ≤ p ∧ p ≤ 99) (h28 : ∀ k : Int, 0 ≤ k → k < 100 → h 28 k = B k) (h27 : ∀ k : Int, p < k → k < 100 → h 27 k = dG l B k 11) (k : R (dG l B p 11) c h) : zCl (d + 1) 191 [(2, 26), (0, p), (0, l)] c h R X := by
  have hm := dM_r (q := p) hp.1
  have e10 : w32 (p + 10) = p + 10 := w32_e (by omega) (by omega)
  have epl : w32 (p - l) = p - l := w32_e (by omega) (by omega)
  refine b_191 ?_
  rw [e10, epl]
  refine ⟨fun q => ⟨fun q1 => by omega, fun q1 => s_192 hp ⟨by omega, ?_⟩⟩, fun q => ⟨by split <;> omega, fun q1 => ?_, fun q1 => s_192 hp ⟨by omega, ?_⟩⟩⟩
  · have e : p = 99 := by omega
    subst e
    have b1 := hB (99 - l) (by omega) (by omega)
    rw [dG_99 hl hM hB] at k
    rw [h28 _ (by omega) (by omega), w32_e (x := 1000 * dM 99) (by omega) (by omega), w32_e (by omega) (by omega), if_pos (by omega)]
    exact k
  · have g := dG_r (l := l) (B := B) (p := if p + 10 < 99 then p + 10 else 99) hl hM hB (by split <;> omega)
    rw [dG_rec hl hM hB (by omega), if_pos q1] at k
    rw [h27 _ (by split <;> omega) (by split <;> omega), w32_e (by omega) (by omega)]
    exact k
  · have g := dG_r (l := l) (B := B) (p := if p + 10 < 99 then p + 10 else 99) hl hM hB (by split <;> omega)
    have b1 := hB (p - l) (by omega) (by omega)
    rw [dG_rec hl hM hB (by omega), if_neg (by omega)] at k
    rw [h27 _ (by split <;> omega) (by split <;> omega), h28 _ (by omega) (by omega), w32_e (x := 4001 + _) (by omega) (by omega), w32_e (x := 1000 * dM p) (by omega) (by omega), w32_e (by omega) (by omega)]
    exact k
theorem s_190 {d c : Nat} {h0 : zH} {R : Int → Nat → zH → Prop} {X : Nat → Nat → zH → Prop} {t n : Int} {r : zH} (ht : zIsR t) (cr : cRoad t h0 r) (wr : wRoad r) (hn : 1 ≤ n ∧ n ≤ 30) (k : ∀ h', (∀ o j, o ≠ 27 → o ≠ 28 → h' o j = h0 o j) → R (dK (r 0 9) n n.toNat (r 0 8)) c h') : zCl (d + 2) 190 [(2, 26), (2, t), (0, n)] c h0 R X := by
  have ht' := ht
  unfold zIsR at ht'
  have hev := wr_every wr
  have hso := wr_soft wr
  refine b_190 ht (s_9 zo_27 (by decide) (fun h1 a1 a2 => ?_))
  have main := zDown (W := fun s => ∀ h, (∀ o j, o ≠ 27 → o ≠ 28 → h o j = h0 o j) → (∀ j : Int, 0 ≤ j → j < 100 → h 27 j = dK (r 0 9) n s j) → zWp (d + 2) 190 10 [(2, 26), (2, t), (0, n), (0, n - s), (9, 0), (9, 0)] [] (zTS c h) (zQ 1 R X)) n.toNat ?_ ?_ 0 (Nat.zero_le _) h1 (fun o j o1 _ => a1 o j o1) (fun j a b => by rw [a2 j a b]; rfl)
  · rw [show n - ((0 : Nat) : Int) = n by omega] at main
    exact main
  · intro h f1 f2
    have cr1 : cRoad t h r := cRoad_fr (fun o j a b => f1 o j (by omega) (by omega)) cr
    refine b_190_10 ht ⟨fun _ => ?_, fun q => by omega⟩
    rw [cr_soft cr1, f2 _ (by omega) (by omega)]
    exact ⟨by omega, k h f1⟩
  · intro s hs ih h f1 f2
    have cr1 : cRoad t h r := cRoad_fr (fun o j a b => f1 o j (by omega) (by omega)) cr
    have eh : ∀ o j, o ≠ 28 → (hcp h 27 0 28 0 100) o j = h o j := fun o j q => by unfold hcp; rw [if_neg (by omega)]
    have eh2 : ∀ j : Int, 0 ≤ j → j < 100 → (hcp h 27 0 28 0 100) 28 j = dK (r 0 9) n s j := fun j a b => by
      unfold hcp
      rw [if_pos ⟨rfl, a, by omega⟩, show (0 : Int) + (j - 0) = j by omega, f2 j a b]
    have e12 : (hcp h 27 0 28 0 100) t 12 = r 0 9 := by rw [eh _ _ (by omega), cr_every cr1]
    have inner : zWp (d + 2) 190 60 [(2, 26), (2, t), (0, n), (0, n - s), (0, dL (r 0 9) (n - s)), (0, 99)] [] (zTS c (hcp h 27 0 28 0 100)) (zQ 1 R X) := by
      have w := zDown (W := fun m => ∀ h', (∀ o j, o ≠ 27 → h' o j = (hcp h 27 0 28 0 100) o j) → (∀ j : Int, 99 - m < j → j < 100 → h' 27 j = dG (dL (r 0 9) (n - s)) (dK (r 0 9) n s) j 11) → zWp (d + 2) 190 60 [(2, 26), (2, t), (0, n), (0, n - s), (0, dL (r 0 9) (n - s)), (0, 99 - (m : Int))] [] (zTS c h') (zQ 1 R X)) 100 ?_ ?_ 0 (Nat.zero_le _) _ (fun _ _ _ => rfl) (fun j a b => by omega)
      · exact w
      · intro h' g1 g2
        refine b_190_60 ht ⟨fun _ => ?_, fun q => by omega⟩
        rw [w32_e (by omega) (by omega), show n - (s : Int) + -1 = n - ((s + 1 : Nat) : Int) by omega]
        refine ih h' (fun o j o1 o2 => by rw [g1 o j o1, eh o j o2, f1 o j o1 o2]) (fun j a b => ?_)
        rw [g2 j (by omega) b]
        rfl
      · intro m hm ih2 h' g1 g2
        refine b_190_60 ht ⟨fun q => by omega, fun _ => s_191 (B := dK (r 0 9) n s) (M := 10000 * s) (dL_r _ _) (by omega) (fun k a b => dK_r s (by omega) k a b) (by omega) (fun k a b => by rw [g1 _ _ (by omega), eh2 k a b]) (fun k a b => g2 k (by omega) b) ⟨by omega, ?_⟩⟩
        rw [w32_e (by omega) (by omega), show (99 : Int) - (m : Int) + -1 = 99 - ((m + 1 : Nat) : Int) by omega]
        refine ih2 _ (fun o j q => by rw [hw_ne (Or.inl q), g1 o j q]) (fun j a b => ?_)
        by_cases e : j = 99 - m
        · rw [hw_eq ⟨rfl, e⟩, e]
        · rw [hw_ne (Or.inr e), g2 j (by omega) b]
    unfold dL at inner
    refine b_190_10 ht ⟨fun q => by omega, fun _ => ?_⟩
    rw [e12]
    refine ⟨fun q => by omega, fun _ => ⟨by omega, fun q => ?_, fun q => ?_⟩⟩
    · rw [if_neg q] at inner
      exact inner
    · rw [if_pos q] at inner
      exact inner
theorem s_314 {d c : Nat} {h0 : zH} {R : Int → Nat → zH → Prop} {X : Nat → Nat → zH → Prop} {n : Int} {r : zH} (mr : mRoad h0 r) (wr : wRoad r) (hn : 1 ≤ n ∧ n ≤ 30) (k : ∀ h', (∀ o j, o ≠ 153 → h' o j = h0 o j) → R (dK (r 0 9) n n.toNat (r 0 8)) c h') : zCl d 314 [(2, 113), (0, n)] c h0 R X := by
  have hev := wr_every wr
  have hso := wr_soft wr
  refine b_314 ?_
  refine zDown (W := fun m => ∀ h, (∀ o j, o ≠ 153 → h o j = h0 o j) → (∀ j : Int, 0 ≤ j → j < (m : Int) → h 153 (100 * (n + 1) + j) = 0) → zWp d 314 2 [(2, 113), (0, n), (0, (m : Int)), (9, 0), (9, 0), (9, 0), (9, 0), (9, 0), (9, 0), (9, 0)] [] (zTS c h) (zQ 1 R X)) 100 ?_ ?_ 0 (Nat.zero_le _) h0 (fun _ _ _ => rfl) (fun j a b => by omega)
  · intro h1 a1 a2
    refine b_314_2 ⟨fun _ => ?_, fun q => by omega⟩
    have main := zDown (W := fun s => ∀ h, (∀ o j, o ≠ 153 → h o j = h0 o j) → (∀ j : Int, 0 ≤ j → j < 100 → h 153 (100 * (n + 1 - s) + j) = dK (r 0 9) n s j) → zWp d 314 30 [(2, 113), (0, n), (0, n - s), (9, 0), (9, 0), (9, 0), (9, 0), (9, 0), (9, 0), (9, 0)] [] (zTS c h) (zQ 1 R X)) n.toNat ?_ ?_ 0 (Nat.zero_le _) h1 a1 (fun j a b => by rw [show n + 1 - ((0 : Nat) : Int) = n + 1 by omega, a2 j a b]; rfl)
    · rw [show n - ((0 : Nat) : Int) = n by omega] at main
      exact main
    · intro h f1 f2
      refine b_314_30 ⟨fun _ => ?_, fun q => by omega⟩
      rw [f1 _ _ (by omega), (mr_told mr).2.2.2.1, w32_e (by omega) (by omega)]
      refine ⟨by omega, ?_⟩
      have := f2 (r 0 8) (by omega) (by omega)
      rw [show 100 * (n + 1 - ((n.toNat : Nat) : Int)) + r 0 8 = 100 + r 0 8 by omega] at this
      rw [this]
      exact k h f1
    · intro s hs ih h f1 f2
      refine b_314_30 ⟨fun q => by omega, fun _ => ?_⟩
      refine zDown (W := fun m => ∀ h', (∀ o j, o ≠ 153 → h' o j = h o j) → (∀ j : Int, 0 ≤ j → j < 100 → h' 153 (100 * (n + 1 - s) + j) = dK (r 0 9) n s j) → (∀ j : Int, 0 ≤ j → j < (m : Int) → h' 153 (100 * (n - s) + j) = dG (dL (r 0 9) (n - s)) (dK (r 0 9) n s) j 11) → zWp d 314 36 [(2, 113), (0, n), (0, n - s), (0, (m : Int)), (9, 0), (9, 0), (9, 0), (9, 0), (9, 0), (9, 0)] [] (zTS c h') (zQ 1 R X)) 100 ?_ ?_ 0 (Nat.zero_le _) h (fun _ _ _ => rfl) f2 (fun j a b => by omega)
      · intro h' g1 g2 g3
        refine b_314_36 ⟨fun _ => ?_, fun q => by omega⟩
        rw [w32_e (by omega) (by omega), show n - (s : Int) + -1 = n - ((s + 1 : Nat) : Int) by omega]
        refine ih h' (fun o j q => by rw [g1 o j q, f1 o j q]) (fun j a b => ?_)
        rw [show n + 1 - ((s + 1 : Nat) : Int) = n - s by omega, g3 j a b]
        rfl
      · intro m hm ih2 h' g1 g2 g3
        refine b_314_36 ⟨fun q => by omega, fun _ => ?_⟩
        refine zDown (W := fun i => zWp d 314 50 [(2, 113), (0, n), (0, n - s), (0, (m : Int)), (0, dG (dL (r 0 9) (n - s)) (dK (r 0 9) n s) m i), (0, (i : Int)), (9, 0), (9, 0), (9, 0), (9, 0)] [] (zTS c h') (zQ 1 R X)) 11 ?_ ?_ 0 (Nat.zero_le _)
        · have e1 : w32 (w32 (100 * (n - (s : Int))) + (m : Int)) = 100 * (n - s) + m := by rw [w32_e (x := 100 * _) (by omega) (by omega), w32_e (by omega) (by omega)]
          refine b_314_50 ⟨fun _ => ?_, fun q => by omega⟩
          rw [e1, w32_s (by omega)]
          refine ⟨by omega, ih2 _ (fun o j q => by rw [hw_ne (Or.inl q), g1 o j q]) (fun j a b => by rw [hw_ne (by omega), g2 j a b]) (fun j a b => ?_)⟩
          by_cases e : j = m
          · rw [hw_eq ⟨rfl, by omega⟩, e]
          · rw [hw_ne (by omega), g3 j a (by omega)]
        · intro i hi ih3
          have mq := dQ_r (p := m) (j := i) (by omega) (by omega)
          have go : ∀ v, 5 ≤ v → v ≤ 99 → v = dQ m i → ∀ a b, a + b = dM v → (0 ≤ a ∧ a < 1000) → (0 ≤ b ∧ b < 1000) → zWp d 314 112 [(2, 113), (0, n), (0, n - s), (0, (m : Int)), (0, dG (dL (r 0 9) (n - s)) (dK (r 0 9) n s) m i), (0, (i : Int)), (0, v), (9, 0), (9, 0), (9, 0)] [(0, b), (0, a)] (zTS c h') (zQ 1 R X) := by
            intro v v5 v99 hv a b hab ha hb
            have hm2 := dM_r (q := v) (by omega)
            have fin : ∀ u, u = v - dL (r 0 9) (n - s) → zWp d 314 140 [(2, 113), (0, n), (0, n - s), (0, (m : Int)), (0, dG (dL (r 0 9) (n - s)) (dK (r 0 9) n s) m i), (0, (i : Int)), (0, v), (0, dM v), (9, 0), (9, 0)] [(0, u)] (zTS c h') (zQ 1 R X) := by
              intro u hu
              have hl := dL_r (r 0 9) (n - s)
              have bk := dK_r (ev := r 0 9) (n := n) s (by omega) u (by omega) (by omega)
              have e1 : w32 (w32 (100 * w32 (n - (s : Int) + 1)) + u) = 100 * (n + 1 - s) + u := by rw [w32_e (x := n - (s : Int) + 1) (by omega) (by omega), w32_e (x := 100 * _) (by omega) (by omega), w32_e (by omega) (by omega)]; omega
              have e2 : w32 (w32 (w32 (4001 * (i : Int)) + w32 (1000 * dM v)) + dK (r 0 9) n s u) = dT (dL (r 0 9) (n - s)) (dK (r 0 9) n s) m i := by
                rw [w32_e (x := 4001 * _) (by omega) (by omega), w32_e (x := 1000 * _) (by omega) (by omega), w32_e (x := 4001 * (i : Int) + _) (by omega) (by omega), w32_e (by omega) (by omega)]
                unfold dT
                rw [← hv, ← hu]
              refine b_314_140 ?_
              rw [e1, g2 u (by omega) (by omega), e2]
              rw [dG] at ih3
              refine ⟨by omega, fun q => b_314_186 (b_314_188 ?_), fun q => b_314_186 (b_314_188 ?_)⟩
              · rw [if_neg (by omega)] at ih3
                rw [w32_s (by omega)]
                exact ih3
              · rw [if_pos ⟨by omega, q⟩] at ih3
                rw [w32_s (by omega)]
                exact ih3
            have e9 : h' 131 4 = r 0 9 := by rw [g1 _ _ (by omega), f1 _ _ (by omega), (mr_told mr).2.2.2.2]
            unfold dL at fin
            refine b_314_112 ?_
            rw [e9, w32_e (by omega) (by omega), hab]
            refine ⟨by omega, fun q => b_314_138 (fin _ ?_), fun q => ⟨fun q1 => by omega, fun _ => ?_⟩⟩
            · rw [if_neg q]
              omega
            · rw [w32_e (by omega) (by omega)]
              exact fin _ (by rw [if_pos q])
          have at81 : ∀ v, v = dQ m i → zWp d 314 81 [(2, 113), (0, n), (0, n - s), (0, (m : Int)), (0, dG (dL (r 0 9) (n - s)) (dK (r 0 9) n s) m i), (0, (i : Int)), (9, 0), (9, 0), (9, 0), (9, 0)] [(0, v)] (zTS c h') (zQ 1 R X) := by
            intro v hv
            refine b_314_81 ⟨fun q => ⟨fun q1 => go v q (by omega) hv 2 0 ?_ (by omega) (by omega), fun q1 => ?_⟩, fun q => b_314_188 ?_⟩
            · unfold dM
              rw [if_neg (by omega)]
              rfl
            · rw [w32_e (x := 39 - v) (by omega) (by omega), Int.tdiv_eq_ediv_of_nonneg (by omega), w32_e (by omega) (by omega)]
              refine go v q (by omega) hv 2 _ ?_ (by omega) (by omega)
              unfold dM
              rw [if_pos q1]
            · rw [dG, if_neg (by omega)] at ih3
              rw [w32_s (by omega)]
              exact ih3
          refine b_314_50 ⟨fun q => by omega, fun _ => ?_⟩
          rw [w32_e (x := 10 * (i : Int)) (by omega) (by omega), w32_e (x := (m : Int) + 10 * i) (by omega) (by omega)]
          refine ⟨fun q => at81 _ ?_, fun q => at81 _ ?_⟩
          · unfold dQ
            rw [if_neg (by omega)]
          · unfold dQ
            rw [if_pos q]
  · intro m hm ih h f1 f2
    have e1 : w32 (w32 (100 * w32 (n + 1)) + (m : Int)) = 100 * (n + 1) + m := by rw [w32_e (x := n + 1) (by omega) (by omega), w32_e (x := 100 * _) (by omega) (by omega), w32_e (by omega) (by omega)]
    refine b_314_2 ⟨fun q => by omega, fun _ => ?_⟩
    rw [e1, w32_s (by omega)]
    refine ⟨by omega, ih _ (fun o j q => by rw [hw_ne (Or.inl q), f1 o j q]) (fun j a b => ?_)⟩
    by_cases e : j = m
    · rw [hw_eq ⟨rfl, by omega⟩]
    · rw [hw_ne (by omega), f2 j a (by omega)]
