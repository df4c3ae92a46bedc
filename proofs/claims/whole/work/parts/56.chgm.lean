/-! changes and images: bounds; the class's images; the reference -/
theorem two16 {r : zH} (wr : wRoad r) : (2 : Int) ^ (r 0 0).toNat ≤ 16 := by
  have hp := wr_p wr
  have h1 : (2 : Nat) ^ (r 0 0).toNat ≤ 2 ^ 4 := Nat.pow_le_pow_right (by decide) (by omega)
  have h2 : (2 : Nat) ^ 4 = 16 := by decide
  have : ((2 ^ (r 0 0).toNat : Nat) : Int) ≤ 16 := by omega
  rwa [Int.natCast_pow] at this
theorem zsw_r {l v i n : Int} (hl : 0 ≤ l ∧ l < n) (hv : 0 ≤ v ∧ v < n) (hi : 0 ≤ i ∧ i < n) : 0 ≤ zsw l v i ∧ zsw l v i < n := by
  unfold zsw
  split
  · exact hv
  · split
    · exact hl
    · exact hi
theorem zsw_2 (l v i : Int) : zsw l v (zsw l v i) = i := by
  unfold zsw
  repeat' split
  all_goals omega
theorem wSw {r : zH} {P : List (Int × Int)} {l v : Int} (wp : wPlan r P) (hl : 0 ≤ l ∧ l < P.length) (hv : 0 ≤ v ∧ v < P.length) : wPlan r (pSw P l v) := by
  have inj : ∀ i j : Int, 0 ≤ i → i < P.length → 0 ≤ j → j < P.length → i ≠ j → pD P i ≠ pD P j := by
    intro i j a b c d e
    rcases Int.lt_or_gt_of_ne e with w | w
    · exact wp.2.2 i j a w d
    · exact fun x => wp.2.2 j i c w b x.symm
  unfold pSw
  refine ⟨by rw [mkP_len]; exact wp.1, fun k a b => ?_, fun i j a b c => ?_⟩
  · rw [mkP_len] at b
    have hs := zsw_r hl hv ⟨a, b⟩
    rw [mkP_D a b, mkP_B a b]
    exact wp.2.1 _ hs.1 hs.2
  · rw [mkP_len] at c
    have hi := zsw_r hl hv (i := i) (by omega)
    have hj := zsw_r hl hv (i := j) (by omega)
    rw [mkP_D a (by omega), mkP_D (by omega) c]
    refine inj _ _ hi.1 hi.2 hj.1 hj.2 (fun w => ?_)
    have : zsw l v (zsw l v i) = zsw l v (zsw l v j) := by rw [w]
    rw [zsw_2, zsw_2] at this
    omega
theorem wHd {r : zH} {P : List (Int × Int)} {l v : Int} (wp : wPlan r P) (hv : 0 ≤ v ∧ v < 2 ^ (r 0 0).toNat) : wPlan r (pHd P l v) := by
  unfold pHd
  refine ⟨by rw [mkP_len]; exact wp.1, fun k a b => ?_, fun i j a b c => ?_⟩
  · rw [mkP_len] at b
    rw [mkP_D a b, mkP_B a b]
    have := wp.2.1 k a b
    split
    · exact ⟨this.1, hv⟩
    · exact this
  · rw [mkP_len] at c
    rw [mkP_D a (by omega), mkP_D (by omega) c]
    exact wp.2.2 i j a b c
theorem wDr {r : zH} {P : List (Int × Int)} {l : Int} (wp : wPlan r P) (hl : 0 ≤ l ∧ l < P.length) : wPlan r (pDr P l) := by
  unfold pDr
  refine ⟨by rw [mkP_len]; have := wp.1; omega, fun k a b => ?_, fun i j a b c => ?_⟩
  · rw [mkP_len] at b
    rw [mkP_D a b, mkP_B a b]
    split
    · exact wp.2.1 k a (by omega)
    · exact wp.2.1 (k + 1) (by omega) (by omega)
  · rw [mkP_len] at c
    rw [mkP_D a (by omega), mkP_D (by omega) c]
    repeat' split
    · exact wp.2.2 i j a b (by omega)
    · exact wp.2.2 i (j + 1) a (by omega) (by omega)
    · omega
    · exact wp.2.2 (i + 1) (j + 1) (by omega) (by omega) (by omega)
theorem eSw {P : List (Int × Int)} {l v : Int} (hl : 0 ≤ l ∧ l < P.length) (hv : 0 ≤ v ∧ v < P.length) : eOk (0, l, v) (pSw P l v) P := by
  have hn : (pSw P l v).length = P.length := mkP_len _ _ _
  refine ⟨Or.inl rfl, ⟨hl.1, fun _ => by rw [hn]; exact hl.2, by show l ≤ _; rw [hn]; omega⟩, fun _ => by rw [hn]; exact hv, ?_⟩
  show pEq (pSw (pSw P l v) l v) P
  refine ⟨by unfold pSw; rw [mkP_len, mkP_len], fun k a b => ?_⟩
  have b' : k < P.length := by
    unfold pSw at b
    rw [mkP_len, mkP_len] at b
    exact b
  have hs := zsw_r hl hv ⟨a, b'⟩
  have e1 : pD (pSw (pSw P l v) l v) k = pD (pSw P l v) (zsw l v k) := by
    conv => lhs; unfold pSw
    rw [mkP_D a (by rw [mkP_len]; exact b')]
    rfl
  have e2 : pB (pSw (pSw P l v) l v) k = pB (pSw P l v) (zsw l v k) := by
    conv => lhs; unfold pSw
    rw [mkP_B a (by rw [mkP_len]; exact b')]
    rfl
  rw [e1, e2]
  unfold pSw
  rw [mkP_D hs.1 hs.2, mkP_B hs.1 hs.2, zsw_2]
  exact ⟨rfl, rfl⟩
theorem eHd {P : List (Int × Int)} {l v : Int} (hl : 0 ≤ l ∧ l < P.length) : eOk (1, l, pB P l) (pHd P l v) P := by
  have hn : (pHd P l v).length = P.length := mkP_len _ _ _
  refine ⟨Or.inr (Or.inl rfl), ⟨hl.1, fun _ => by rw [hn]; exact hl.2, by show l ≤ _; rw [hn]; omega⟩, fun w => absurd w (show ¬ (1 : Int) = 0 by decide), ?_⟩
  show pEq (pHd (pHd P l v) l (pB P l)) P
  refine ⟨by unfold pHd; rw [mkP_len, mkP_len], fun k a b => ?_⟩
  have b' : k < P.length := by
    unfold pHd at b
    rw [mkP_len, mkP_len] at b
    exact b
  have e1 : pD (pHd (pHd P l v) l (pB P l)) k = pD (pHd P l v) k := by
    conv => lhs; unfold pHd
    rw [mkP_D a (by rw [mkP_len]; exact b')]
    rfl
  have e2 : pB (pHd (pHd P l v) l (pB P l)) k = if k = l then pB P l else pB (pHd P l v) k := by
    conv => lhs; unfold pHd
    rw [mkP_B a (by rw [mkP_len]; exact b')]
    rfl
  rw [e1, e2]
  unfold pHd
  rw [mkP_D a b', mkP_B a b']
  refine ⟨rfl, ?_⟩
  by_cases e : k = l
  · rw [if_pos e, e]
  · rw [if_neg e, if_neg e]
theorem k16 : ∀ a : Nat, a < 12 → ∀ b : Nat, b < 16 → zShr ((a : Int) * 16 + b) 4 = a ∧ zAnd ((a : Int) * 16 + b) 15 = b := by decide +kernel
theorem eDr {P : List (Int × Int)} {l : Int} (hl : 0 ≤ l ∧ l < P.length) (hd : 0 ≤ pD P l ∧ pD P l < 12) (hb : 0 ≤ pB P l ∧ pB P l < 16) : eOk (2, l, pD P l * 16 + pB P l) (pDr P l) P := by
  have hn : (pDr P l).length = P.length - 1 := mkP_len _ _ _
  have hk := k16 (pD P l).toNat (by omega) (pB P l).toNat (by omega)
  rw [Int.toNat_of_nonneg hd.1, Int.toNat_of_nonneg hb.1] at hk
  refine ⟨Or.inr (Or.inr rfl), ⟨hl.1, fun w => absurd rfl w, by show l ≤ _; rw [hn]; omega⟩, fun w => absurd w (show ¬ (2 : Int) = 0 by decide), ?_⟩
  unfold pUn
  rw [if_neg (show ¬ (2 : Int) = 0 by decide), if_neg (show ¬ (2 : Int) = 1 by decide), hn]
  refine ⟨by rw [mkP_len]; omega, fun k a b => ?_⟩
  rw [mkP_len] at b
  rw [mkP_D a (by omega), mkP_B a (by omega)]
  show (if k < l then pD (pDr P l) k else if k = l then zShr (pD P l * 16 + pB P l) 4 else pD (pDr P l) (k - 1)) = _ ∧ (if k < l then pB (pDr P l) k else if k = l then zAnd (pD P l * 16 + pB P l) 15 else pB (pDr P l) (k - 1)) = _
  rw [hk.1, hk.2]
  unfold pDr
  by_cases w : k < l
  · rw [if_pos w, if_pos w, mkP_D a (by omega), mkP_B a (by omega), if_pos w, if_pos w]
    exact ⟨rfl, rfl⟩
  · rw [if_neg w, if_neg w]
    by_cases e : k = l
    · rw [if_pos e, if_pos e, e]
      exact ⟨rfl, rfl⟩
    · rw [if_neg e, if_neg e, mkP_D (by omega) (by omega), mkP_B (by omega) (by omega), if_neg (by omega), if_neg (by omega), show k - 1 + 1 = k by omega]
      exact ⟨rfl, rfl⟩
/-! the reference -/
theorem s_326 {d c : Nat} {h : zH} {R : Int → Nat → zH → Prop} {X : Nat → Nat → zH → Prop} {o n q : Int} {P : List (Int × Int)} (ho : (zK o).1 = 50 ∧ ((zK o).2 : Int) = n) (ho2 : o = 154 ∨ o = 155) (hq : 0 ≤ q ∧ q + 25 ≤ n ∧ n ≤ 2000) (mp : mPlan h P) (h12 : P.length ≤ 12) (k : ∀ h', (∀ a j, ¬ (a = o ∧ q ≤ j ∧ j < q + 25) → h' a j = h a j) → mSnap h' o q P → R 0 c h') : zCl d 326 [(2, 113), (2, o), (0, q)] c h R X := by
  refine b_326 ho ?_
  refine zDown (W := fun m => ∀ h', (∀ a j, ¬ (a = o ∧ q ≤ j ∧ j < q + 25) → h' a j = h a j) → (∀ j : Int, 0 ≤ j → j < (m : Int) → h' o (q + j) = h 139 j) → zWp d 326 2 [(2, 113), (2, o), (0, q), (0, (m : Int))] [] (zTS c h') (zQ 0 R X)) 24 ?_ ?_ 0 (Nat.zero_le _) h (fun _ _ _ => rfl) (fun j a b => by omega)
  · intro h' f1 f2
    refine b_326_2 ho ⟨fun _ => ?_, fun w => by omega⟩
    rw [w32_e (by omega) (by omega), f1 113 49 (by omega), mp.1]
    refine ⟨by omega, k _ (fun a j w => by rw [hw_ne (by omega), f1 a j w]) ⟨hw_eq ⟨rfl, rfl⟩, fun j a b => ?_⟩⟩
    have m := mp.2 j a b
    rw [hw_ne (by omega), hw_ne (by omega), f2 (2 * j) (by omega) (by omega), show q + 2 * j + 1 = q + (2 * j + 1) by omega, f2 (2 * j + 1) (by omega) (by omega)]
    exact m
  · intro m hm ih h' f1 f2
    refine b_326_2 ho ⟨fun w => by omega, fun _ => ?_⟩
    rw [w32_e (x := q + (m : Int)) (by omega) (by omega), w32_s (by omega), f1 139 _ (by omega)]
    refine ⟨by omega, by omega, ih _ (fun a j w => by rw [hw_ne (by omega), f1 a j w]) (fun j a b => ?_)⟩
    by_cases e : j = m
    · rw [hw_eq ⟨rfl, by omega⟩, e]
    · rw [hw_ne (by omega), f2 j a (by omega)]
theorem s_330 {d c : Nat} {h : zH} {R : Int → Nat → zH → Prop} {X : Nat → Nat → zH → Prop} {o n q : Int} {P : List (Int × Int)} (ho : (zK o).1 = 50 ∧ ((zK o).2 : Int) = n) (ho2 : o = 154 ∨ o = 155) (hq : 0 ≤ q ∧ q + 25 ≤ n ∧ n ≤ 2000) (ms : mSnap h o q P) (h12 : P.length ≤ 12) (k : ∀ h', (∀ a j, ¬ (a = 139 ∨ (a = 113 ∧ j = 49)) → h' a j = h a j) → mPlan h' P → R 0 c h') : zCl d 330 [(2, 113), (2, o), (0, q)] c h R X := by
  refine b_330 ho ?_
  refine zDown (W := fun m => ∀ h', (∀ a j, a ≠ 139 → h' a j = h a j) → (∀ j : Int, 0 ≤ j → j < (m : Int) → h' 139 j = h o (q + j)) → zWp d 330 2 [(2, 113), (2, o), (0, q), (0, (m : Int))] [] (zTS c h') (zQ 0 R X)) 24 ?_ ?_ 0 (Nat.zero_le _) h (fun _ _ _ => rfl) (fun j a b => by omega)
  · intro h' f1 f2
    refine b_330_2 ho ⟨fun _ => ?_, fun w => by omega⟩
    rw [w32_e (by omega) (by omega), f1 o _ (by omega), ms.1]
    refine ⟨by omega, k _ (fun a j w => by rw [hw_ne (by omega), f1 a j (by omega)]) ⟨hw_eq ⟨rfl, rfl⟩, fun j a b => ?_⟩⟩
    have m := ms.2 j a b
    rw [hw_ne (by omega), hw_ne (by omega), f2 (2 * j) (by omega) (by omega), f2 (2 * j + 1) (by omega) (by omega), show q + (2 * j + 1) = q + 2 * j + 1 by omega]
    exact m
  · intro m hm ih h' f1 f2
    refine b_330_2 ho ⟨fun w => by omega, fun _ => ?_⟩
    rw [w32_e (x := q + (m : Int)) (by omega) (by omega), w32_s (by omega), f1 o _ (by omega)]
    refine ⟨by omega, by omega, ih _ (fun a j w => by rw [hw_ne (by omega), f1 a j w]) (fun j a b => ?_)⟩
    by_cases e : j = m
    · rw [hw_eq ⟨rfl, e⟩, e]
    · rw [hw_ne (by omega), f2 j a (by omega)]
theorem s_325 {d c : Nat} {h : zH} {R : Int → Nat → zH → Prop} {X : Nat → Nat → zH → Prop} {r : zH} {P : List (Int × Int)} {L : List ((Int × Int × Int) × List (Int × Int))} (mp : mPlan h P) (h12 : P.length ≤ 12) (hk : hOk r P L) (ml : h 113 70 = L.length ∧ mLogR h 154 0 L) (hL : L.length ≤ 20) (k0 : L.length = 20 → R 0 c h) (k1 : L.length < 20 → ∀ h', (∀ a j, ¬ (a = 154 ∨ (a = 113 ∧ j = 70)) → h' a j = h a j) → (∀ e, h' 113 70 = (((e, P) :: L).length : Int) ∧ mLogR h' 154 0 ((e, P) :: L)) → R 1 c h') : zCl (d + 1) 325 [(2, 113)] c h R X := by
  refine b_325 ⟨fun q => ?_, fun q => k0 (by omega)⟩
  rw [ml.1, w32_e (by omega) (by omega)]
  refine s_326 zo_154 (Or.inl rfl) (by omega) mp h12 (fun h' f1 f2 => ?_)
  have e70 : h' 113 70 = L.length := by rw [f1 _ _ (by omega), ml.1]
  rw [e70, w32_e (by omega) (by omega)]
  refine k1 (by omega) _ (fun a j w => by rw [hw_ne (by omega), f1 a j (by omega)]) (fun e => ⟨?_, ?_, ?_⟩)
  · rw [hw_eq ⟨rfl, rfl⟩]
    rfl
  · refine mSnap_fr h12 (fun j a b => by rw [hw_ne (by omega)]) ?_
    rw [show (0 : Int) + 25 * (L.length : Int) = 25 * L.length by omega]
    exact f2
  · exact mLogR_fr hk (fun j a b => by rw [hw_ne (by omega), f1 _ _ (by omega)]) ml.2
