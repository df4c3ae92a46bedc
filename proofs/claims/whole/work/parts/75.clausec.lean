/-! the road's text: a clause, the class -/
theorem s_69 {d c : Nat} {T : Int → Int} {n : Int} (wt : wTape T n) {R : Int → Nat → zH → Prop} {X : Nat → Nat → zH → Prop} {h : zH} {b e : Int} (ct : cTape h T n) (h3 : h 2 3 = b) (h2 : h 2 2 = e) (hbe : 0 ≤ b ∧ b ≤ e ∧ e ≤ n) (hl : ∀ i : Int, b ≤ i → i < e → 97 ≤ T i ∧ T i ≤ 122) (k : R (kOf (wH T b e)) c h) : zCl (d + 1) 69 [(2, 2)] c h R X := by
  unfold kOf at k
  refine b_69 ?_
  refine s_70h wt (wOk_j (by decide) (by decide) (by decide)) ct h3 h2 hbe hl (fun e1 => ⟨fun q => absurd q (by decide), fun _ => ?_⟩) (fun e1 => ⟨fun _ => ?_, fun q => absurd rfl q⟩)
  · rw [if_pos e1] at k
    exact k
  rw [if_neg e1] at k
  refine s_70h wt (wOk_j (by decide) (by decide) (by decide)) ct h3 h2 hbe hl (fun e1 => ⟨fun q => absurd q (by decide), fun _ => ?_⟩) (fun e1 => ⟨fun _ => ?_, fun q => absurd rfl q⟩)
  · rw [if_pos e1] at k
    exact k
  rw [if_neg e1] at k
  refine s_70h wt (wOk_j (by decide) (by decide) (by decide)) ct h3 h2 hbe hl (fun e1 => ⟨fun q => absurd q (by decide), fun _ => ?_⟩) (fun e1 => ⟨fun _ => ?_, fun q => absurd rfl q⟩)
  · rw [if_pos e1] at k
    exact k
  rw [if_neg e1] at k
  refine s_70h wt (wOk_j (by decide) (by decide) (by decide)) ct h3 h2 hbe hl (fun e1 => ⟨fun q => absurd q (by decide), fun _ => ?_⟩) (fun e1 => ⟨fun _ => ?_, fun q => absurd rfl q⟩)
  · rw [if_pos e1] at k
    exact k
  rw [if_neg e1] at k
  refine s_70h wt (wOk_j (by decide) (by decide) (by decide)) ct h3 h2 hbe hl (fun e1 => ⟨fun q => absurd q (by decide), fun _ => ?_⟩) (fun e1 => ⟨fun _ => ?_, fun q => absurd rfl q⟩)
  · rw [if_pos e1] at k
    exact k
  rw [if_neg e1] at k
  refine s_70h wt (wOk_j (by decide) (by decide) (by decide)) ct h3 h2 hbe hl (fun e1 => ⟨fun q => absurd q (by decide), fun _ => ?_⟩) (fun e1 => ⟨fun _ => ?_, fun q => absurd rfl q⟩)
  · rw [if_pos e1] at k
    exact k
  rw [if_neg e1] at k
  refine s_70h wt (wOk_j (by decide) (by decide) (by decide)) ct h3 h2 hbe hl (fun e1 => ⟨fun q => absurd q (by decide), fun _ => ?_⟩) (fun e1 => ⟨fun _ => ?_, fun q => absurd rfl q⟩)
  · rw [if_pos e1] at k
    exact k
  rw [if_neg e1] at k
  refine s_70h wt (wOk_j (by decide) (by decide) (by decide)) ct h3 h2 hbe hl (fun e1 => ⟨fun q => absurd q (by decide), fun _ => ?_⟩) (fun e1 => ⟨fun _ => ?_, fun q => absurd rfl q⟩)
  · rw [if_pos e1] at k
    exact k
  rw [if_neg e1] at k
  refine s_70h wt (wOk_j (by decide) (by decide) (by decide)) ct h3 h2 hbe hl (fun e1 => ⟨fun q => absurd q (by decide), fun _ => ?_⟩) (fun e1 => ⟨fun _ => ?_, fun q => absurd rfl q⟩)
  · rw [if_pos e1] at k
    exact k
  rw [if_neg e1] at k
  refine s_70h wt (wOk_j (by decide) (by decide) (by decide)) ct h3 h2 hbe hl (fun e1 => ⟨fun q => absurd q (by decide), fun _ => ?_⟩) (fun e1 => ⟨fun _ => ?_, fun q => absurd rfl q⟩)
  · rw [if_pos e1] at k
    exact k
  rw [if_neg e1] at k
  refine s_70h wt (wOk_j (by decide) (by decide) (by decide)) ct h3 h2 hbe hl (fun e1 => ⟨fun q => absurd q (by decide), fun _ => ?_⟩) (fun e1 => ⟨fun _ => ?_, fun q => absurd rfl q⟩)
  · rw [if_pos e1] at k
    exact k
  rw [if_neg e1] at k
  refine s_70h wt (wOk_j (by decide) (by decide) (by decide)) ct h3 h2 hbe hl (fun e1 => ⟨fun q => absurd q (by decide), fun _ => ?_⟩) (fun e1 => ⟨fun _ => ?_, fun q => absurd rfl q⟩)
  · rw [if_pos e1] at k
    exact k
  rw [if_neg e1] at k
  exact k
theorem s_73 {d c : Nat} {T : Int → Int} {n : Int} (wt : wTape T n) {R : Int → Nat → zH → Prop} {X : Nat → Nat → zH → Prop} {h q : zH} {t pl kd : Int} {m : Int → Int} {st : (Int × Int) ⊕ Int} (ht : t = 30 ∨ t = 50) (hk : 0 ≤ kd ∧ kd ≤ 11) (ct : cTape h T n) (ps : cPs h n pl st) (cd : cDr t h q m) (h1m : h (t + 1) 1 = m 1) (hm1 : 0 ≤ m 1 ∧ m 1 ≤ 12) (hi : 0 ≤ m kd ∧ m kd < kM kd) (K : ∀ h', (∀ o j, ¬ cTs o j → ¬ (t ≤ o ∧ o ≤ t + 19 ∧ o ≠ t + 1) → h' o j = h o j) → cPs h' n pl (rC T n kd m q st).1 → (isOkS (rC T n kd m q st).1 → cDr t h' (rC T n kd m q st).2 (mUp m kd)) → R 0 c h') : zCl (d + 3) 73 [(2, t), (2, 2), (0, kd), (0, m kd)] c h R X := by
  have : kd = 0 ∨ kd = 1 ∨ kd = 2 ∨ kd = 3 ∨ kd = 4 ∨ kd = 5 ∨ kd = 6 ∨ kd = 7 ∨ kd = 8 ∨ kd = 9 ∨ kd = 10 ∨ kd = 11 := by omega
  rcases this with e | e | e | e | e | e | e | e | e | e | e | e <;> subst e
  · exact b_73 ht ⟨fun _ => s_73_0 wt ht ct ps cd hi K, fun w => absurd rfl w⟩
  · exact b_73 ht ⟨fun w => absurd w (by decide), fun _ => ⟨fun _ => s_73_1 wt ht ct ps cd hi K, fun w => absurd rfl w⟩⟩
  · exact b_73 ht ⟨fun w => absurd w (by decide), fun _ => ⟨fun w => absurd w (by decide), fun _ => ⟨fun _ => s_73_2 wt ht ct ps cd hm1 h1m K, fun w => absurd rfl w⟩⟩⟩
  · exact b_73 ht ⟨fun w => absurd w (by decide), fun _ => ⟨fun w => absurd w (by decide), fun _ => ⟨fun w => absurd w (by decide), fun _ => ⟨fun _ => s_73_3 wt ht ct ps cd K, fun w => absurd rfl w⟩⟩⟩⟩
  · exact b_73 ht ⟨fun w => absurd w (by decide), fun _ => ⟨fun w => absurd w (by decide), fun _ => ⟨fun w => absurd w (by decide), fun _ => ⟨fun w => absurd w (by decide), fun _ => ⟨fun _ => s_73_4 wt ht ct ps cd K, fun w => absurd rfl w⟩⟩⟩⟩⟩
  · exact b_73 ht ⟨fun w => absurd w (by decide), fun _ => ⟨fun w => absurd w (by decide), fun _ => ⟨fun w => absurd w (by decide), fun _ => ⟨fun w => absurd w (by decide), fun _ => ⟨fun w => absurd w (by decide), fun _ => ⟨fun _ => s_73_5 wt ht ct ps cd hi K, fun w => absurd rfl w⟩⟩⟩⟩⟩⟩
  · exact b_73 ht ⟨fun w => absurd w (by decide), fun _ => ⟨fun w => absurd w (by decide), fun _ => ⟨fun w => absurd w (by decide), fun _ => ⟨fun w => absurd w (by decide), fun _ => ⟨fun w => absurd w (by decide), fun _ => ⟨fun w => absurd w (by decide), fun _ => ⟨fun _ => s_73_6 wt ht ct ps cd K, fun w => absurd rfl w⟩⟩⟩⟩⟩⟩⟩
  · exact b_73 ht ⟨fun w => absurd w (by decide), fun _ => ⟨fun w => absurd w (by decide), fun _ => ⟨fun w => absurd w (by decide), fun _ => ⟨fun w => absurd w (by decide), fun _ => ⟨fun w => absurd w (by decide), fun _ => ⟨fun w => absurd w (by decide), fun _ => ⟨fun w => absurd w (by decide), fun _ => ⟨fun _ => s_73_7 wt ht ct ps cd hi K, fun w => absurd rfl w⟩⟩⟩⟩⟩⟩⟩⟩
  · exact b_73 ht ⟨fun w => absurd w (by decide), fun _ => ⟨fun w => absurd w (by decide), fun _ => ⟨fun w => absurd w (by decide), fun _ => ⟨fun w => absurd w (by decide), fun _ => ⟨fun w => absurd w (by decide), fun _ => ⟨fun w => absurd w (by decide), fun _ => ⟨fun w => absurd w (by decide), fun _ => ⟨fun w => absurd w (by decide), fun _ => ⟨fun _ => s_73_8 wt ht ct ps cd K, fun w => absurd rfl w⟩⟩⟩⟩⟩⟩⟩⟩⟩
  · exact b_73 ht ⟨fun w => absurd w (by decide), fun _ => ⟨fun w => absurd w (by decide), fun _ => ⟨fun w => absurd w (by decide), fun _ => ⟨fun w => absurd w (by decide), fun _ => ⟨fun w => absurd w (by decide), fun _ => ⟨fun w => absurd w (by decide), fun _ => ⟨fun w => absurd w (by decide), fun _ => ⟨fun w => absurd w (by decide), fun _ => ⟨fun w => absurd w (by decide), fun _ => ⟨fun _ => s_73_9 wt ht ct ps cd hi K, fun w => absurd rfl w⟩⟩⟩⟩⟩⟩⟩⟩⟩⟩
  · exact b_73 ht ⟨fun w => absurd w (by decide), fun _ => ⟨fun w => absurd w (by decide), fun _ => ⟨fun w => absurd w (by decide), fun _ => ⟨fun w => absurd w (by decide), fun _ => ⟨fun w => absurd w (by decide), fun _ => ⟨fun w => absurd w (by decide), fun _ => ⟨fun w => absurd w (by decide), fun _ => ⟨fun w => absurd w (by decide), fun _ => ⟨fun w => absurd w (by decide), fun _ => ⟨fun w => absurd w (by decide), fun _ => ⟨fun _ => s_73_10 wt ht ct ps cd K, fun w => absurd rfl w⟩⟩⟩⟩⟩⟩⟩⟩⟩⟩⟩
  · exact b_73 ht ⟨fun w => absurd w (by decide), fun _ => ⟨fun w => absurd w (by decide), fun _ => ⟨fun w => absurd w (by decide), fun _ => ⟨fun w => absurd w (by decide), fun _ => ⟨fun w => absurd w (by decide), fun _ => ⟨fun w => absurd w (by decide), fun _ => ⟨fun w => absurd w (by decide), fun _ => ⟨fun w => absurd w (by decide), fun _ => ⟨fun w => absurd w (by decide), fun _ => ⟨fun w => absurd w (by decide), fun _ => ⟨fun w => absurd w (by decide), fun _ => s_73_11 wt ht ct ps cd K⟩⟩⟩⟩⟩⟩⟩⟩⟩⟩⟩
theorem s_71f {d c : Nat} {h : zH} {R : Int → Nat → zH → Prop} {X : Nat → Nat → zH → Prop} {K : Int} (h4 : h 2 4 = 0) (k : R 0 c (hw (hw h 2 4 K) 2 6 (h 2 3))) : zCl (d + 1) 71 [(2, 2), (0, K)] c h R X := b_71 (s_72 (fun w => absurd h4 w) (fun _ => k))
theorem s_67 {d c : Nat} {T : Int → Int} {n : Int} (wt : wTape T n) {R : Int → Nat → zH → Prop} {X : Nat → Nat → zH → Prop} {h q : zH} {t pl i : Int} {m : Int → Int} (ht : t = 30 ∨ t = 50) (ct : cTape h T n) (ha : 0 ≤ h 2 2 ∧ h 2 2 ≤ n) (h4 : h 2 4 = 0) (h6 : h 2 6 = pl) (cd : cDr t h q m) (hM : ∀ k : Int, 0 ≤ k → k < 12 → h (t + 1) k = m k) (wM : ∀ k : Int, 0 ≤ k → k < 12 → 0 ≤ m k ∧ m k ≤ kM k) (K : ∀ h', (∀ o j, ¬ cTs o j → ¬ (t ≤ o ∧ o ≤ t + 19) → h' o j = h o j) → cPs h' n pl (rCl T n i m q (h 2 2)).1 → (isOkS (rCl T n i m q (h 2 2)).1 → cDr t h' (rCl T n i m q (h 2 2)).2.2 (rCl T n i m q (h 2 2)).2.1) → (∀ k : Int, 0 ≤ k → k < 12 → h' (t + 1) k = (rCl T n i m q (h 2 2)).2.1 k) → R 0 c h') : zCl (d + 4) 67 [(2, t), (2, 2), (0, i)] c h R X := by
  have w1 := wt.1
  have hbw := nBW (T := T) ha.2
  have lets : ∀ j : Int, nB T n (h 2 2) ≤ j → j < wE T n (h 2 2) → 97 ≤ T j ∧ T j ≤ 122 := fun j a b => isS_t.mp (run_in (p := isS) (T := T) (n := n) (n - nB T n (h 2 2)).toNat (nB T n (h 2 2)) (by omega) j a b)
  refine b_67 ht (s_68 wt ct ha (fun h1 f1 e2 e3 e4 e6 => ?_))
  have ct1 := cTape_fr f1 ct
  have fail : ∀ kd : Int, 1 ≤ kd → (rCl T n i m q (h 2 2)) = (.inl (kd, nB T n (h 2 2)), m, q) → R 0 c (hw (hw h1 2 4 kd) 2 6 (h1 2 3)) := by
    intro kd hkd er
    rw [er] at K
    refine K _ (fun o j a b => by rw [hw_ne (by unfold cTs at a; omega), hw_ne (by unfold cTs at a; omega), f1 o j a]) ⟨?_, ?_, by show kd ≠ 0; omega, ?_⟩ (fun x => absurd x (fun y => y)) (fun k a b => ?_)
    · rw [hw_ne (by omega), hw_eq ⟨rfl, rfl⟩]
    · rw [hw_eq ⟨rfl, rfl⟩, e3]
    · rw [hw_ne (by omega), hw_ne (by omega), e2]
      omega
    · rw [hw_ne (by omega), hw_ne (by omega), f1 _ _ (by unfold cTs; omega)]
      exact hM k a b
  refine s_69 wt ct1 e3 e2 (by omega) lets ?_
  rw [show kOf (wH T (nB T n (h 2 2)) (wE T n (h 2 2))) = kW T n (h 2 2) from rfl]
  have kr := kOf_r (wH T (nB T n (h 2 2)) (wE T n (h 2 2)))
  rw [show kOf (wH T (nB T n (h 2 2)) (wE T n (h 2 2))) = kW T n (h 2 2) from rfl] at kr
  refine ⟨fun ne => ⟨fun q60 => ?_, fun l60 => ⟨by omega, by omega, fun lt => ⟨by omega, ?_⟩, fun ge => ?_⟩⟩, fun e => ?_⟩
  · refine s_71f (by omega) (fail 3 (by decide) ?_)
    unfold rCl
    rw [if_neg ne, if_pos (Or.inl q60)]
  · have em : h1 (t + 1) (kW T n (h 2 2)) = m (kW T n (h 2 2)) := by rw [f1 _ _ (by unfold cTs; omega), hM _ (by omega) (by omega)]
    have lt' : m (kW T n (h 2 2)) < kM (kW T n (h 2 2)) := by rw [em] at lt; exact lt
    have er : rCl T n i m q (h 2 2) = (rdX T n 59 (rC T n (kW T n (h 2 2)) m q (.inr (wE T n (h 2 2)))).1, mUp m (kW T n (h 2 2)), (rC T n (kW T n (h 2 2)) m q (.inr (wE T n (h 2 2)))).2) := by
      unfold rCl
      rw [if_neg ne, if_neg (by omega)]
    rw [er] at K
    dsimp only at K
    rw [em]
    have a1 := wM 1 (by decide) (by decide)
    have k1 : kM 1 = 12 := rfl
    have mr := wM (kW T n (h 2 2)) (by omega) (by omega)
    have ps1 : cPs h1 n pl (.inr (wE T n (h 2 2))) := ⟨by omega, by omega, e2, by show 0 ≤ wE T n (h 2 2) ∧ wE T n (h 2 2) ≤ n; omega⟩
    have cd1 : cDr t h1 q m := cDr_fr (fun o j o1 o2 un => f1 o j (by unfold cTs; omega)) cd
    refine s_73 wt ht (by omega) ct1 ps1 cd1 (by rw [f1 _ _ (by unfold cTs; omega)]; exact hM 1 (by decide) (by decide)) (by omega) ⟨mr.1, lt'⟩ (fun h2 f2 p2 c2 => ?_)
    have ct2 : cTape h2 T n := ⟨by rw [f2 _ _ (by unfold cTs; omega) (by omega)]; exact ct1.1, fun k x y => by rw [f2 _ _ (by unfold cTs; omega) (by omega)]; exact ct1.2 k x y⟩
    refine c_81 wt (by decide) ct2 p2 (fun h3 f3 p3 => ⟨by omega, by omega, ?_⟩)
    have em3 : h3 (t + 1) (kW T n (h 2 2)) = m (kW T n (h 2 2)) := by rw [f3 _ _ (by unfold cTs; omega), f2 _ _ (by unfold cTs; omega) (by omega), em]
    have kb := kM_r (k := kW T n (h 2 2)) (by omega) (by omega)
    rw [em3, w32_e (by omega) (by omega)]
    refine K _ (fun o j a b => by rw [hw_ne (by omega), f3 o j a, f2 o j a (by omega), f1 o j a]) (cpw (by omega) p3) (fun ok => ?_) (fun k a b => ?_)
    · have c2' := c2 (rdX_ok ok)
      exact cDr_fr (fun o j o1 o2 un => by rw [hw_ne (Or.inl (fun w => un (Or.inr (Or.inr (Or.inr (Or.inr (Or.inr w))))))), f3 o j (by unfold cTs; omega)]) c2'
    · unfold mUp
      by_cases w : k = kW T n (h 2 2)
      · rw [hw_eq ⟨rfl, w⟩, if_pos w, w]
      · rw [hw_ne (by omega), if_neg w, f3 _ _ (by unfold cTs; omega), f2 _ _ (by unfold cTs; omega) (by omega), f1 _ _ (by unfold cTs; omega), hM k a b]
  · refine s_71f (by omega) (fail 3 (by decide) ?_)
    have em : h1 (t + 1) (kW T n (h 2 2)) = m (kW T n (h 2 2)) := by rw [f1 _ _ (by unfold cTs; omega), hM _ (by omega) (by omega)]
    unfold rCl
    rw [if_neg ne, if_pos (Or.inr (by rw [em] at ge; exact ge))]
  · refine s_71f (by omega) (fail 1 (by decide) ?_)
    unfold rCl
    rw [if_pos e]
