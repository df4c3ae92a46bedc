/-! the road's text: words and clauses, the reference -/
theorem kOf_e {w kd : Int} (h : kOf w = kd) (h0 : 0 ≤ kd) : w = wC (kd + 1) := by
  unfold kOf at h
  repeat' split at h
  all_goals first | omega | (subst h; assumption)
theorem kOf_n {w : Int} (h : kOf w = -1) : w ≠ wC 1 ∧ w ≠ wC 2 ∧ w ≠ wC 3 ∧ w ≠ wC 4 ∧ w ≠ wC 5 ∧ w ≠ wC 6 ∧ w ≠ wC 7 ∧ w ≠ wC 8 ∧ w ≠ wC 9 ∧ w ≠ wC 10 ∧ w ≠ wC 11 ∧ w ≠ wC 12 := by
  refine ⟨fun e => ?_, fun e => ?_, fun e => ?_, fun e => ?_, fun e => ?_, fun e => ?_, fun e => ?_, fun e => ?_, fun e => ?_, fun e => ?_, fun e => ?_, fun e => ?_⟩ <;> (subst e; revert h; decide +kernel)
def zTg (kd : Int) : Prop := kd = 0 ∨ kd = 1 ∨ kd = 5 ∨ kd = 7 ∨ kd = 9
theorem kd12 {kd : Int} (hk : 0 ≤ kd ∧ kd ≤ 11) : kd = 0 ∨ kd = 1 ∨ kd = 2 ∨ kd = 3 ∨ kd = 4 ∨ kd = 5 ∨ kd = 6 ∨ kd = 7 ∨ kd = 8 ∨ kd = 9 ∨ kd = 10 ∨ kd = 11 := by omega
theorem s_229k {d c : Nat} {R : Int → Nat → zH → Prop} {X : Nat → Nat → zH → Prop} {h : zH} {kd : Int} (hk : 0 ≤ kd ∧ kd ≤ 11) (k1 : zTg kd → R 1 c h) (k0 : ¬ zTg kd → R 0 c h) : zCl (d + 1) 229 [(0, wC (kd + 1))] c h R X := by
  rcases kd12 hk with e | e | e | e | e | e | e | e | e | e | e | e <;> subst e
  · exact b_229 (s_230 (wOk_j (by decide) (by decide) (by decide)) ⟨fun _ => k1 (by unfold zTg; decide), fun w => absurd (by decide +kernel) w⟩)
  · exact b_229 (s_230 (wOk_j (by decide) (by decide) (by decide)) ⟨fun w => absurd w (by decide +kernel), fun _ => s_230 (wOk_j (by decide) (by decide) (by decide)) ⟨fun _ => k1 (by unfold zTg; decide), fun w => absurd (by decide +kernel) w⟩⟩)
  · exact b_229 (s_230 (wOk_j (by decide) (by decide) (by decide)) ⟨fun w => absurd w (by decide +kernel), fun _ => s_230 (wOk_j (by decide) (by decide) (by decide)) ⟨fun w => absurd w (by decide +kernel), fun _ => s_230 (wOk_j (by decide) (by decide) (by decide)) ⟨fun w => absurd w (by decide +kernel), fun _ => s_230 (wOk_j (by decide) (by decide) (by decide)) ⟨fun w => absurd w (by decide +kernel), fun _ => s_230 (wOk_j (by decide) (by decide) (by decide)) ⟨fun _ => k0 (by unfold zTg; decide), fun w => absurd w (by decide +kernel)⟩⟩⟩⟩⟩)
  · exact b_229 (s_230 (wOk_j (by decide) (by decide) (by decide)) ⟨fun w => absurd w (by decide +kernel), fun _ => s_230 (wOk_j (by decide) (by decide) (by decide)) ⟨fun w => absurd w (by decide +kernel), fun _ => s_230 (wOk_j (by decide) (by decide) (by decide)) ⟨fun w => absurd w (by decide +kernel), fun _ => s_230 (wOk_j (by decide) (by decide) (by decide)) ⟨fun w => absurd w (by decide +kernel), fun _ => s_230 (wOk_j (by decide) (by decide) (by decide)) ⟨fun _ => k0 (by unfold zTg; decide), fun w => absurd w (by decide +kernel)⟩⟩⟩⟩⟩)
  · exact b_229 (s_230 (wOk_j (by decide) (by decide) (by decide)) ⟨fun w => absurd w (by decide +kernel), fun _ => s_230 (wOk_j (by decide) (by decide) (by decide)) ⟨fun w => absurd w (by decide +kernel), fun _ => s_230 (wOk_j (by decide) (by decide) (by decide)) ⟨fun w => absurd w (by decide +kernel), fun _ => s_230 (wOk_j (by decide) (by decide) (by decide)) ⟨fun w => absurd w (by decide +kernel), fun _ => s_230 (wOk_j (by decide) (by decide) (by decide)) ⟨fun _ => k0 (by unfold zTg; decide), fun w => absurd w (by decide +kernel)⟩⟩⟩⟩⟩)
  · exact b_229 (s_230 (wOk_j (by decide) (by decide) (by decide)) ⟨fun w => absurd w (by decide +kernel), fun _ => s_230 (wOk_j (by decide) (by decide) (by decide)) ⟨fun w => absurd w (by decide +kernel), fun _ => s_230 (wOk_j (by decide) (by decide) (by decide)) ⟨fun _ => k1 (by unfold zTg; decide), fun w => absurd (by decide +kernel) w⟩⟩⟩)
  · exact b_229 (s_230 (wOk_j (by decide) (by decide) (by decide)) ⟨fun w => absurd w (by decide +kernel), fun _ => s_230 (wOk_j (by decide) (by decide) (by decide)) ⟨fun w => absurd w (by decide +kernel), fun _ => s_230 (wOk_j (by decide) (by decide) (by decide)) ⟨fun w => absurd w (by decide +kernel), fun _ => s_230 (wOk_j (by decide) (by decide) (by decide)) ⟨fun w => absurd w (by decide +kernel), fun _ => s_230 (wOk_j (by decide) (by decide) (by decide)) ⟨fun _ => k0 (by unfold zTg; decide), fun w => absurd w (by decide +kernel)⟩⟩⟩⟩⟩)
  · exact b_229 (s_230 (wOk_j (by decide) (by decide) (by decide)) ⟨fun w => absurd w (by decide +kernel), fun _ => s_230 (wOk_j (by decide) (by decide) (by decide)) ⟨fun w => absurd w (by decide +kernel), fun _ => s_230 (wOk_j (by decide) (by decide) (by decide)) ⟨fun w => absurd w (by decide +kernel), fun _ => s_230 (wOk_j (by decide) (by decide) (by decide)) ⟨fun _ => k1 (by unfold zTg; decide), fun w => absurd (by decide +kernel) w⟩⟩⟩⟩)
  · exact b_229 (s_230 (wOk_j (by decide) (by decide) (by decide)) ⟨fun w => absurd w (by decide +kernel), fun _ => s_230 (wOk_j (by decide) (by decide) (by decide)) ⟨fun w => absurd w (by decide +kernel), fun _ => s_230 (wOk_j (by decide) (by decide) (by decide)) ⟨fun w => absurd w (by decide +kernel), fun _ => s_230 (wOk_j (by decide) (by decide) (by decide)) ⟨fun w => absurd w (by decide +kernel), fun _ => s_230 (wOk_j (by decide) (by decide) (by decide)) ⟨fun _ => k0 (by unfold zTg; decide), fun w => absurd w (by decide +kernel)⟩⟩⟩⟩⟩)
  · exact b_229 (s_230 (wOk_j (by decide) (by decide) (by decide)) ⟨fun w => absurd w (by decide +kernel), fun _ => s_230 (wOk_j (by decide) (by decide) (by decide)) ⟨fun w => absurd w (by decide +kernel), fun _ => s_230 (wOk_j (by decide) (by decide) (by decide)) ⟨fun w => absurd w (by decide +kernel), fun _ => s_230 (wOk_j (by decide) (by decide) (by decide)) ⟨fun w => absurd w (by decide +kernel), fun _ => s_230 (wOk_j (by decide) (by decide) (by decide)) ⟨fun w => absurd (by decide +kernel) w, fun _ => k1 (by unfold zTg; decide)⟩⟩⟩⟩⟩)
  · exact b_229 (s_230 (wOk_j (by decide) (by decide) (by decide)) ⟨fun w => absurd w (by decide +kernel), fun _ => s_230 (wOk_j (by decide) (by decide) (by decide)) ⟨fun w => absurd w (by decide +kernel), fun _ => s_230 (wOk_j (by decide) (by decide) (by decide)) ⟨fun w => absurd w (by decide +kernel), fun _ => s_230 (wOk_j (by decide) (by decide) (by decide)) ⟨fun w => absurd w (by decide +kernel), fun _ => s_230 (wOk_j (by decide) (by decide) (by decide)) ⟨fun _ => k0 (by unfold zTg; decide), fun w => absurd w (by decide +kernel)⟩⟩⟩⟩⟩)
  · exact b_229 (s_230 (wOk_j (by decide) (by decide) (by decide)) ⟨fun w => absurd w (by decide +kernel), fun _ => s_230 (wOk_j (by decide) (by decide) (by decide)) ⟨fun w => absurd w (by decide +kernel), fun _ => s_230 (wOk_j (by decide) (by decide) (by decide)) ⟨fun w => absurd w (by decide +kernel), fun _ => s_230 (wOk_j (by decide) (by decide) (by decide)) ⟨fun w => absurd w (by decide +kernel), fun _ => s_230 (wOk_j (by decide) (by decide) (by decide)) ⟨fun _ => k0 (by unfold zTg; decide), fun w => absurd w (by decide +kernel)⟩⟩⟩⟩⟩)
theorem s_229n {d c : Nat} {R : Int → Nat → zH → Prop} {X : Nat → Nat → zH → Prop} {h : zH} {w : Int} (hw : kOf w = -1) (k0 : R 0 c h) : zCl (d + 1) 229 [(0, w)] c h R X := by
  obtain ⟨n1, n2, n3, n4, n5, n6, n7, n8, n9, n10, n11, n12⟩ := kOf_n hw
  exact b_229 (s_230 (wOk_j (by decide) (by decide) (by decide)) ⟨fun e => absurd (e.trans (by decide +kernel)) n1, fun _ => s_230 (wOk_j (by decide) (by decide) (by decide)) ⟨fun e => absurd (e.trans (by decide +kernel)) n2, fun _ => s_230 (wOk_j (by decide) (by decide) (by decide)) ⟨fun e => absurd (e.trans (by decide +kernel)) n6, fun _ => s_230 (wOk_j (by decide) (by decide) (by decide)) ⟨fun e => absurd (e.trans (by decide +kernel)) n8, fun _ => s_230 (wOk_j (by decide) (by decide) (by decide)) ⟨fun _ => k0, fun e => absurd (e.trans (by decide +kernel)) n10⟩⟩⟩⟩⟩)
theorem s_231k {d c : Nat} {R : Int → Nat → zH → Prop} {X : Nat → Nat → zH → Prop} {h : zH} {kd : Int} (hk : 0 ≤ kd ∧ kd ≤ 11) (ht : ¬ zTg kd) (k1 : R 1 c h) : zCl (d + 1) 231 [(0, wC (kd + 1))] c h R X := by
  rcases kd12 hk with e | e | e | e | e | e | e | e | e | e | e | e <;> subst e
  · exact absurd (by unfold zTg; decide) ht
  · exact absurd (by unfold zTg; decide) ht
  · exact b_231 (s_230 (wOk_j (by decide) (by decide) (by decide)) ⟨fun _ => k1, fun w => absurd (by decide +kernel) w⟩)
  · exact b_231 (s_230 (wOk_j (by decide) (by decide) (by decide)) ⟨fun w => absurd w (by decide +kernel), fun _ => s_230 (wOk_j (by decide) (by decide) (by decide)) ⟨fun _ => k1, fun w => absurd (by decide +kernel) w⟩⟩)
  · exact b_231 (s_230 (wOk_j (by decide) (by decide) (by decide)) ⟨fun w => absurd w (by decide +kernel), fun _ => s_230 (wOk_j (by decide) (by decide) (by decide)) ⟨fun w => absurd w (by decide +kernel), fun _ => s_230 (wOk_j (by decide) (by decide) (by decide)) ⟨fun _ => k1, fun w => absurd (by decide +kernel) w⟩⟩⟩)
  · exact absurd (by unfold zTg; decide) ht
  · exact b_231 (s_230 (wOk_j (by decide) (by decide) (by decide)) ⟨fun w => absurd w (by decide +kernel), fun _ => s_230 (wOk_j (by decide) (by decide) (by decide)) ⟨fun w => absurd w (by decide +kernel), fun _ => s_230 (wOk_j (by decide) (by decide) (by decide)) ⟨fun w => absurd w (by decide +kernel), fun _ => s_230 (wOk_j (by decide) (by decide) (by decide)) ⟨fun _ => k1, fun w => absurd (by decide +kernel) w⟩⟩⟩⟩)
  · exact absurd (by unfold zTg; decide) ht
  · exact b_231 (s_230 (wOk_j (by decide) (by decide) (by decide)) ⟨fun w => absurd w (by decide +kernel), fun _ => s_230 (wOk_j (by decide) (by decide) (by decide)) ⟨fun w => absurd w (by decide +kernel), fun _ => s_230 (wOk_j (by decide) (by decide) (by decide)) ⟨fun w => absurd w (by decide +kernel), fun _ => s_230 (wOk_j (by decide) (by decide) (by decide)) ⟨fun w => absurd w (by decide +kernel), fun _ => s_230 (wOk_j (by decide) (by decide) (by decide)) ⟨fun _ => k1, fun w => absurd (by decide +kernel) w⟩⟩⟩⟩⟩)
  · exact absurd (by unfold zTg; decide) ht
  · exact b_231 (s_230 (wOk_j (by decide) (by decide) (by decide)) ⟨fun w => absurd w (by decide +kernel), fun _ => s_230 (wOk_j (by decide) (by decide) (by decide)) ⟨fun w => absurd w (by decide +kernel), fun _ => s_230 (wOk_j (by decide) (by decide) (by decide)) ⟨fun w => absurd w (by decide +kernel), fun _ => s_230 (wOk_j (by decide) (by decide) (by decide)) ⟨fun w => absurd w (by decide +kernel), fun _ => s_230 (wOk_j (by decide) (by decide) (by decide)) ⟨fun w => absurd w (by decide +kernel), fun _ => s_230 (wOk_j (by decide) (by decide) (by decide)) ⟨fun _ => k1, fun w => absurd (by decide +kernel) w⟩⟩⟩⟩⟩⟩)
  · exact b_231 (s_230 (wOk_j (by decide) (by decide) (by decide)) ⟨fun w => absurd w (by decide +kernel), fun _ => s_230 (wOk_j (by decide) (by decide) (by decide)) ⟨fun w => absurd w (by decide +kernel), fun _ => s_230 (wOk_j (by decide) (by decide) (by decide)) ⟨fun w => absurd w (by decide +kernel), fun _ => s_230 (wOk_j (by decide) (by decide) (by decide)) ⟨fun w => absurd w (by decide +kernel), fun _ => s_230 (wOk_j (by decide) (by decide) (by decide)) ⟨fun w => absurd w (by decide +kernel), fun _ => s_230 (wOk_j (by decide) (by decide) (by decide)) ⟨fun w => absurd w (by decide +kernel), fun _ => s_230 (wOk_j (by decide) (by decide) (by decide)) ⟨fun w => absurd (by decide +kernel) w, fun _ => k1⟩⟩⟩⟩⟩⟩⟩)
theorem s_231n {d c : Nat} {R : Int → Nat → zH → Prop} {X : Nat → Nat → zH → Prop} {h : zH} {w : Int} (hw : kOf w = -1) (k0 : R 0 c h) : zCl (d + 1) 231 [(0, w)] c h R X := by
  obtain ⟨n1, n2, n3, n4, n5, n6, n7, n8, n9, n10, n11, n12⟩ := kOf_n hw
  exact b_231 (s_230 (wOk_j (by decide) (by decide) (by decide)) ⟨fun e => absurd (e.trans (by decide +kernel)) n3, fun _ => s_230 (wOk_j (by decide) (by decide) (by decide)) ⟨fun e => absurd (e.trans (by decide +kernel)) n4, fun _ => s_230 (wOk_j (by decide) (by decide) (by decide)) ⟨fun e => absurd (e.trans (by decide +kernel)) n5, fun _ => s_230 (wOk_j (by decide) (by decide) (by decide)) ⟨fun e => absurd (e.trans (by decide +kernel)) n7, fun _ => s_230 (wOk_j (by decide) (by decide) (by decide)) ⟨fun e => absurd (e.trans (by decide +kernel)) n9, fun _ => s_230 (wOk_j (by decide) (by decide) (by decide)) ⟨fun e => absurd (e.trans (by decide +kernel)) n11, fun _ => s_230 (wOk_j (by decide) (by decide) (by decide)) ⟨fun _ => k0, fun e => absurd (e.trans (by decide +kernel)) n12⟩⟩⟩⟩⟩⟩⟩)
theorem s_233k {d c : Nat} {R : Int → Nat → zH → Prop} {X : Nat → Nat → zH → Prop} {h : zH} {m : Int → Int} {kd : Int} (hk : 0 ≤ kd ∧ kd ≤ 11) (cn : mCn h m) (wM : ∀ k : Int, 0 ≤ k → k < 12 → 0 ≤ m k ∧ m k ≤ kM k) (h60 : m kd < 60) (k1 : kM kd ≤ m kd → R 1 c h) (k0 : m kd < kM kd → R 0 c h) : zCl (d + 1) 233 [(2, 113), (0, wC (kd + 1))] c h R X := by
  obtain ⟨c0, c1, c3, c5, c7, c9⟩ := cn
  rcases kd12 hk with e | e | e | e | e | e | e | e | e | e | e | e <;> subst e
  · have km : kM 0 = 4 := rfl
    have wm := wM 0 (by decide) (by decide)
    exact b_233 (s_230 (wOk_j (by decide) (by decide) (by decide)) ⟨fun w => absurd (by decide +kernel) w, fun _ => ⟨fun w => k0 (by omega), fun w => k1 (by omega)⟩⟩)
  · have km : kM 1 = 12 := rfl
    have wm := wM 1 (by decide) (by decide)
    exact b_233 (s_230 (wOk_j (by decide) (by decide) (by decide)) ⟨fun _ => s_230 (wOk_j (by decide) (by decide) (by decide)) ⟨fun w => absurd (by decide +kernel) w, fun _ => ⟨fun w => k0 (by omega), fun w => k1 (by omega)⟩⟩, fun w => absurd w (by decide +kernel)⟩)
  · have km : kM 2 = 60 := rfl
    exact b_233 (s_230 (wOk_j (by decide) (by decide) (by decide)) ⟨fun _ => s_230 (wOk_j (by decide) (by decide) (by decide)) ⟨fun _ => s_230 (wOk_j (by decide) (by decide) (by decide)) ⟨fun _ => s_230 (wOk_j (by decide) (by decide) (by decide)) ⟨fun _ => s_230 (wOk_j (by decide) (by decide) (by decide)) ⟨fun _ => s_230 (wOk_j (by decide) (by decide) (by decide)) ⟨fun _ => k0 (by omega), fun w => absurd w (by decide +kernel)⟩, fun w => absurd w (by decide +kernel)⟩, fun w => absurd w (by decide +kernel)⟩, fun w => absurd w (by decide +kernel)⟩, fun w => absurd w (by decide +kernel)⟩, fun w => absurd w (by decide +kernel)⟩)
  · have km : kM 3 = 6 := rfl
    have wm := wM 3 (by decide) (by decide)
    exact b_233 (s_230 (wOk_j (by decide) (by decide) (by decide)) ⟨fun _ => s_230 (wOk_j (by decide) (by decide) (by decide)) ⟨fun _ => s_230 (wOk_j (by decide) (by decide) (by decide)) ⟨fun w => absurd (by decide +kernel) w, fun _ => ⟨fun w => k0 (by omega), fun w => k1 (by omega)⟩⟩, fun w => absurd w (by decide +kernel)⟩, fun w => absurd w (by decide +kernel)⟩)
  · have km : kM 4 = 60 := rfl
    exact b_233 (s_230 (wOk_j (by decide) (by decide) (by decide)) ⟨fun _ => s_230 (wOk_j (by decide) (by decide) (by decide)) ⟨fun _ => s_230 (wOk_j (by decide) (by decide) (by decide)) ⟨fun _ => s_230 (wOk_j (by decide) (by decide) (by decide)) ⟨fun _ => s_230 (wOk_j (by decide) (by decide) (by decide)) ⟨fun _ => s_230 (wOk_j (by decide) (by decide) (by decide)) ⟨fun _ => k0 (by omega), fun w => absurd w (by decide +kernel)⟩, fun w => absurd w (by decide +kernel)⟩, fun w => absurd w (by decide +kernel)⟩, fun w => absurd w (by decide +kernel)⟩, fun w => absurd w (by decide +kernel)⟩, fun w => absurd w (by decide +kernel)⟩)
  · have km : kM 5 = 6 := rfl
    have wm := wM 5 (by decide) (by decide)
    exact b_233 (s_230 (wOk_j (by decide) (by decide) (by decide)) ⟨fun _ => s_230 (wOk_j (by decide) (by decide) (by decide)) ⟨fun _ => s_230 (wOk_j (by decide) (by decide) (by decide)) ⟨fun _ => s_230 (wOk_j (by decide) (by decide) (by decide)) ⟨fun w => absurd (by decide +kernel) w, fun _ => ⟨fun w => k0 (by omega), fun w => k1 (by omega)⟩⟩, fun w => absurd w (by decide +kernel)⟩, fun w => absurd w (by decide +kernel)⟩, fun w => absurd w (by decide +kernel)⟩)
  · have km : kM 6 = 60 := rfl
    exact b_233 (s_230 (wOk_j (by decide) (by decide) (by decide)) ⟨fun _ => s_230 (wOk_j (by decide) (by decide) (by decide)) ⟨fun _ => s_230 (wOk_j (by decide) (by decide) (by decide)) ⟨fun _ => s_230 (wOk_j (by decide) (by decide) (by decide)) ⟨fun _ => s_230 (wOk_j (by decide) (by decide) (by decide)) ⟨fun _ => s_230 (wOk_j (by decide) (by decide) (by decide)) ⟨fun _ => k0 (by omega), fun w => absurd w (by decide +kernel)⟩, fun w => absurd w (by decide +kernel)⟩, fun w => absurd w (by decide +kernel)⟩, fun w => absurd w (by decide +kernel)⟩, fun w => absurd w (by decide +kernel)⟩, fun w => absurd w (by decide +kernel)⟩)
  · have km : kM 7 = 8 := rfl
    have wm := wM 7 (by decide) (by decide)
    exact b_233 (s_230 (wOk_j (by decide) (by decide) (by decide)) ⟨fun _ => s_230 (wOk_j (by decide) (by decide) (by decide)) ⟨fun _ => s_230 (wOk_j (by decide) (by decide) (by decide)) ⟨fun _ => s_230 (wOk_j (by decide) (by decide) (by decide)) ⟨fun _ => s_230 (wOk_j (by decide) (by decide) (by decide)) ⟨fun w => absurd (by decide +kernel) w, fun _ => ⟨fun w => k0 (by omega), fun w => k1 (by omega)⟩⟩, fun w => absurd w (by decide +kernel)⟩, fun w => absurd w (by decide +kernel)⟩, fun w => absurd w (by decide +kernel)⟩, fun w => absurd w (by decide +kernel)⟩)
  · have km : kM 8 = 60 := rfl
    exact b_233 (s_230 (wOk_j (by decide) (by decide) (by decide)) ⟨fun _ => s_230 (wOk_j (by decide) (by decide) (by decide)) ⟨fun _ => s_230 (wOk_j (by decide) (by decide) (by decide)) ⟨fun _ => s_230 (wOk_j (by decide) (by decide) (by decide)) ⟨fun _ => s_230 (wOk_j (by decide) (by decide) (by decide)) ⟨fun _ => s_230 (wOk_j (by decide) (by decide) (by decide)) ⟨fun _ => k0 (by omega), fun w => absurd w (by decide +kernel)⟩, fun w => absurd w (by decide +kernel)⟩, fun w => absurd w (by decide +kernel)⟩, fun w => absurd w (by decide +kernel)⟩, fun w => absurd w (by decide +kernel)⟩, fun w => absurd w (by decide +kernel)⟩)
  · have km : kM 9 = 4 := rfl
    have wm := wM 9 (by decide) (by decide)
    exact b_233 (s_230 (wOk_j (by decide) (by decide) (by decide)) ⟨fun _ => s_230 (wOk_j (by decide) (by decide) (by decide)) ⟨fun _ => s_230 (wOk_j (by decide) (by decide) (by decide)) ⟨fun _ => s_230 (wOk_j (by decide) (by decide) (by decide)) ⟨fun _ => s_230 (wOk_j (by decide) (by decide) (by decide)) ⟨fun _ => s_230 (wOk_j (by decide) (by decide) (by decide)) ⟨fun w => absurd (by decide +kernel) w, fun _ => ⟨fun w => k0 (by omega), fun w => k1 (by omega)⟩⟩, fun w => absurd w (by decide +kernel)⟩, fun w => absurd w (by decide +kernel)⟩, fun w => absurd w (by decide +kernel)⟩, fun w => absurd w (by decide +kernel)⟩, fun w => absurd w (by decide +kernel)⟩)
  · have km : kM 10 = 60 := rfl
    exact b_233 (s_230 (wOk_j (by decide) (by decide) (by decide)) ⟨fun _ => s_230 (wOk_j (by decide) (by decide) (by decide)) ⟨fun _ => s_230 (wOk_j (by decide) (by decide) (by decide)) ⟨fun _ => s_230 (wOk_j (by decide) (by decide) (by decide)) ⟨fun _ => s_230 (wOk_j (by decide) (by decide) (by decide)) ⟨fun _ => s_230 (wOk_j (by decide) (by decide) (by decide)) ⟨fun _ => k0 (by omega), fun w => absurd w (by decide +kernel)⟩, fun w => absurd w (by decide +kernel)⟩, fun w => absurd w (by decide +kernel)⟩, fun w => absurd w (by decide +kernel)⟩, fun w => absurd w (by decide +kernel)⟩, fun w => absurd w (by decide +kernel)⟩)
  · have km : kM 11 = 60 := rfl
    exact b_233 (s_230 (wOk_j (by decide) (by decide) (by decide)) ⟨fun _ => s_230 (wOk_j (by decide) (by decide) (by decide)) ⟨fun _ => s_230 (wOk_j (by decide) (by decide) (by decide)) ⟨fun _ => s_230 (wOk_j (by decide) (by decide) (by decide)) ⟨fun _ => s_230 (wOk_j (by decide) (by decide) (by decide)) ⟨fun _ => s_230 (wOk_j (by decide) (by decide) (by decide)) ⟨fun _ => k0 (by omega), fun w => absurd w (by decide +kernel)⟩, fun w => absurd w (by decide +kernel)⟩, fun w => absurd w (by decide +kernel)⟩, fun w => absurd w (by decide +kernel)⟩, fun w => absurd w (by decide +kernel)⟩, fun w => absurd w (by decide +kernel)⟩)
/-- the numbers of a clause -/
theorem s_num {d c : Nat} {T : Int → Int} {n : Int} (wt : wTape T n) {R : Int → Nat → zH → Prop} {X : Nat → Nat → zH → Prop} {h q : zH} {kd : Int} {m : Int → Int} {st : (Int × Int) ⊕ Int} (hk : 0 ≤ kd ∧ kd ≤ 11) (mt : mTape h T n) (ps : mPs h n st) (dr : mDr h q m) (cn : mCn h m) (wd : wDf m q) (hi : m kd < kM kd) (K : ∀ h', (∀ o j, ¬ mTs o j → ¬ mDs o j → h' o j = h o j) → mPs h' n (rC T n kd m q st).1 → (isOkS (rC T n kd m q st).1 → mDr h' (rC T n kd m q st).2 (mUp m kd) ∧ mCn h' (mUp m kd)) → R 0 c h') : (zTg kd → zCl (d + 2) 235 [(2, 113), (0, wC (kd + 1))] c h R X) ∧ (¬ zTg kd → zCl (d + 2) 238 [(2, 113), (0, wC (kd + 1))] c h R X) := by
  have wM := wd.1
  rcases kd12 hk with e | e | e | e | e | e | e | e | e | e | e | e <;> subst e
  · exact ⟨fun _ => s_235_0 wt mt ps dr cn wd ⟨(wM 0 (by decide) (by decide)).1, hi⟩ K, fun w => absurd (by unfold zTg; decide) w⟩
  · exact ⟨fun _ => s_235_1 wt mt ps dr cn wd ⟨(wM 1 (by decide) (by decide)).1, hi⟩ K, fun w => absurd (by unfold zTg; decide) w⟩
  · exact ⟨fun w => absurd w (by unfold zTg; decide), fun _ => s_238_2 wt mt ps dr cn wd (wM 1 (by decide) (by decide)) K⟩
  · exact ⟨fun w => absurd w (by unfold zTg; decide), fun _ => s_238_3 wt mt ps dr cn wd ⟨(wM 3 (by decide) (by decide)).1, by have : kM 3 = 6 := rfl; omega⟩ K⟩
  · exact ⟨fun w => absurd w (by unfold zTg; decide), fun _ => s_238_4 wt mt ps dr cn wd K⟩
  · exact ⟨fun _ => s_235_5 wt mt ps dr cn wd ⟨(wM 5 (by decide) (by decide)).1, hi⟩ K, fun w => absurd (by unfold zTg; decide) w⟩
  · exact ⟨fun w => absurd w (by unfold zTg; decide), fun _ => s_238_6 wt mt ps dr cn wd K⟩
  · exact ⟨fun _ => s_235_7 wt mt ps dr cn wd ⟨(wM 7 (by decide) (by decide)).1, hi⟩ K, fun w => absurd (by unfold zTg; decide) w⟩
  · exact ⟨fun w => absurd w (by unfold zTg; decide), fun _ => s_238_8 wt mt ps dr cn wd K⟩
  · exact ⟨fun _ => s_235_9 wt mt ps dr cn wd ⟨(wM 9 (by decide) (by decide)).1, hi⟩ K, fun w => absurd (by unfold zTg; decide) w⟩
  · exact ⟨fun w => absurd w (by unfold zTg; decide), fun _ => s_238_10 wt mt ps dr cn wd K⟩
  · exact ⟨fun w => absurd w (by unfold zTg; decide), fun _ => s_238_11 wt mt ps dr cn wd K⟩
theorem s_221_44 {d c : Nat} {T : Int → Int} {n : Int} (wt : wTape T n) {R : Int → Nat → zH → Prop} {X : Nat → Nat → zH → Prop} {h : zH} {x a0 : Int} (mt : mTape h T n) (dr : mDr h q00 (fun _ => 0)) (cn : mCn h (fun _ => 0)) (h5 : h 113 5 = -1) (h4 : h 113 4 = a0) (ha : 0 ≤ a0 ∧ a0 ≤ n) (K : ∀ h' i2, (∀ o j, ¬ mTs o j → ¬ mDs o j → h' o j = h o j) → mPs h' n (rRd T n a0).1 → (isOkS (rRd T n a0).1 → mDr h' (rRd T n a0).2.2 (rRd T n a0).2.1 ∧ mCn h' (rRd T n a0).2.1 ∧ wDf (rRd T n a0).2.1 (rRd T n a0).2.2) → zWp (d + 3) 221 158 [(2, 113), (0, x), (0, i2), (9, 0)] [] (zTS c h') (zQ 1 R X)) : zWp (d + 3) 221 44 [(2, 113), (0, x), (0, 0), (9, 0)] [] (zTS c h) (zQ 1 R X) := by
  have loop : ∀ (f : Nat) (i : Int) (m : Int → Int) (q h2 : zH), i + f = 61 → (0 ≤ i ∧ i ≤ 60) → wDf m q → mDr h2 q m → mCn h2 m → (∀ k : Int, 0 ≤ k → k < 12 → m k ≤ i) → (∀ o j, ¬ mTs o j → ¬ mDs o j → h2 o j = h o j) → (0 ≤ h2 113 4 ∧ h2 113 4 ≤ n) → h2 113 5 = -1 → rLp T n f i m q (h2 113 4) = rRd T n a0 → zWp (d + 3) 221 44 [(2, 113), (0, x), (0, i), (9, 0)] [] (zTS c h2) (zQ 1 R X) := by
    intro f
    induction f with
    | zero =>
      intro i m q h2 hf hi
      omega
    | succ f ih =>
      intro i m q h2 hf hi wM dr2 cn2 mi f2 a2 e5 he
      have w1 := wt.1
      obtain ⟨a, hea⟩ : ∃ a, a = h2 113 4 := ⟨_, rfl⟩
      rw [← hea] at he a2
      have hbw := nBW (T := T) a2.2
      have mt2 : mTape h2 T n := ⟨by rw [f2 _ _ (by unfold mTs; omega) (by unfold mDs; omega)]; exact mt.1, fun k u v => by rw [f2 _ _ (by unfold mTs; omega) (by unfold mDs; omega)]; exact mt.2 k u v⟩
      have ps2 : mPs h2 n (.inr a) := ⟨e5, hea.symm, a2⟩
      rw [rLp] at he
      refine b_221_44 (m_224 ps2 (fun _ => ⟨fun w => absurd w (by decide), fun _ => s_225 wt mt2 (by omega) (fun q1 h3 f3 g3 => ⟨fun w => absurd w (by decide), fun _ => ?_⟩) (fun q1 h3 f3 g3 => ⟨fun _ => ?_, fun w => absurd rfl w⟩)⟩) (fun nok => absurd trivial nok))
      · rw [← hea] at q1 g3
        rw [if_pos q1] at he
        have f3' : ∀ o j, ¬ mTs o j → h3 o j = h2 o j := fun o j w => f3 o j (by have := mTs2 w; omega)
        have mt3 := mTape_fr f3' mt2
        refine s_227 wt mt3 (by omega) (fun h4 f4 g4 => ?_)
        rw [g3, nB_i a2.2] at g4
        rw [g3, nB_i a2.2, wE_i a2.2]
        have f4' : ∀ o j, ¬ mTs o j → h4 o j = h2 o j := fun o j w => by rw [f4 o j (by have := mTs2 w; omega), f3' o j w]
        have mt4 := mTape_fr f4' mt2
        have e54 : h4 113 5 = -1 := by rw [f4 _ _ (by omega), f3 _ _ (by omega)]; exact e5
        have dr4 : mDr h4 q m := mDr_fr (fun o j w => f4' o j (by unfold mTs; omega)) dr2
        have cn4 : mCn h4 m := mCn_fr (fun j u v => f4' _ _ (by unfold mTs; omega)) cn2
        have ps4 : mPs h4 n (.inr (nB T n a)) := ⟨e54, g4, by show 0 ≤ nB T n a ∧ nB T n a ≤ n; omega⟩
        obtain ⟨w, hw0⟩ : ∃ w, w = wH T (nB T n a) (wE T n a) := ⟨_, rfl⟩
        rw [← hw0]
        have hkW : kW T n a = kOf w := by rw [hw0]; rfl
        have kr := kOf_r w
        have fail : ∀ kk : Int, 1 ≤ kk → rCl T n i m q a = (.inl (kk, nB T n a), m, q) → zWp (d + 3) 221 112 [(2, 113), (0, x), (0, i), (0, w)] [] (zTS c (hw (hw h4 113 5 (h4 113 4)) 113 6 kk)) (zQ 1 R X) := by
          intro kk hkk er
          rw [er] at he
          dsimp only at he
          have ps5 : mPs (hw (hw h4 113 5 (h4 113 4)) 113 6 kk) n (.inl (kk, nB T n a)) := ⟨by rw [hw_eq ⟨rfl, rfl⟩], by rw [hw_ne (by omega), hw_eq ⟨rfl, rfl⟩, g4], by show nB T n a ≠ -1; omega, by show kk ≠ 0; omega⟩
          refine b_221_112 (m_224 ps5 (fun ok => absurd ok (fun v => v)) (fun _ => ⟨fun v => absurd rfl v, fun _ => ?_⟩))
          rw [← he] at K
          exact K _ i (fun o j u v => by rw [hw_ne (by unfold mTs at u; omega), hw_ne (by unfold mTs at u; omega), f4' o j u, f2 o j u v]) ps5 (fun ok => absurd ok (fun v => v))
        have full : (kW T n a ≠ -1) → (60 ≤ i ∨ kM (kW T n a) ≤ m (kW T n a)) → zWp (d + 3) 221 103 [(2, 113), (0, x), (0, i), (0, w)] [] (zTS c h4) (zQ 1 R X) := by
          intro u v
          refine b_221_103 (s_232 e54 (fail 3 (by decide) ?_))
          unfold rCl
          rw [if_neg u, if_pos v]
        have cont : kW T n a ≠ -1 → zWp (d + 3) 221 89 [(2, 113), (0, x), (0, i), (0, w)] [] (zTS c h4) (zQ 1 R X) := by
          intro ne
          obtain ⟨kd, hkd⟩ : ∃ kd, kd = kW T n a := ⟨_, rfl⟩
          have hkd' : 0 ≤ kd ∧ kd ≤ 11 := by omega
          have ew : w = wC (kd + 1) := kOf_e (by rw [hkd, hkW]) hkd'.1
          have mid := mi kd hkd'.1 (by omega)
          refine b_221_89 ⟨fun v => full ne (Or.inl (by omega)), fun v => ?_⟩
          rw [ew]
          refine s_233k hkd' cn4 wM.1 (by omega) (fun u => ⟨fun z => absurd z (by decide), fun _ => ?_⟩) (fun u => ⟨fun _ => ?_, fun z => absurd rfl z⟩)
          · rw [← ew]
            exact full ne (Or.inr (by rw [← hkd]; exact u))
          · refine b_221_112 (m_224 ps4 (fun _ => ⟨fun _ => ?_, fun z => absurd z (by decide)⟩) (fun nok => absurd trivial nok))
            refine s_234 wt mt4 (by omega) (fun h5 f5 g5 => ?_)
            rw [g4] at g5
            have f5' : ∀ o j, ¬ mTs o j → h5 o j = h2 o j := fun o j z => by rw [f5 o j (by have := mTs2 z; omega), f4' o j z]
            have er : rCl T n i m q a = (rdX T n 59 (rC T n kd m q (.inr (wE T n a))).1, mUp m kd, (rC T n kd m q (.inr (wE T n a))).2) := by
              unfold rCl
              rw [if_neg ne, if_neg (by rw [← hkd]; omega), hkd]
            have wM2 : isOkS (rCl T n i m q a).1 → wDf (mUp m kd) (rC T n kd m q (.inr (wE T n a))).2 := by
              intro ok
              have := rCl_w wM ok
              rw [er] at this
              exact this
            have ps5 : mPs h5 n (.inr (wE T n a)) := ⟨by rw [f5 _ _ (by omega)]; exact e54, g5, by show 0 ≤ wE T n a ∧ wE T n a ≤ n; omega⟩
            have after : ∀ h6, (∀ o j, ¬ mTs o j → ¬ mDs o j → h6 o j = h5 o j) → mPs h6 n (rC T n kd m q (.inr (wE T n a))).1 → (isOkS (rC T n kd m q (.inr (wE T n a))).1 → mDr h6 (rC T n kd m q (.inr (wE T n a))).2 (mUp m kd) ∧ mCn h6 (mUp m kd)) → zWp (d + 3) 221 146 [(2, 113), (0, x), (0, i), (0, wC (kd + 1))] [] (zTS c h6) (zQ 1 R X) := by
              intro h6 f6 p6 c6
              have ff : ∀ o j, ¬ mTs o j → ¬ mDs o j → h6 o j = h2 o j := fun o j u v => by rw [f6 o j u v, f5' o j u]
              have mt6 : mTape h6 T n := ⟨by rw [ff _ _ (by unfold mTs; omega) (by unfold mDs; omega)]; exact mt2.1, fun k u v => by rw [ff _ _ (by unfold mTs; omega) (by unfold mDs; omega)]; exact mt2.2 k u v⟩
              refine b_221_146 (m_239 wt (by decide) mt6 p6 (fun h7 f7 p7 => ?_))
              have ff7 : ∀ o j, ¬ mTs o j → ¬ mDs o j → h7 o j = h o j := fun o j u v => by rw [f7 o j u, ff o j u v, f2 o j u v]
              rw [w32_e (by omega) (by omega)]
              cases hst : rdX T n 59 (rC T n kd m q (.inr (wE T n a))).1 with
              | inl e =>
                rw [er] at he
                dsimp only at he
                rw [hst] at he p7
                dsimp only at he
                rw [← he] at K
                exact b_221_44 (m_224 p7 (fun ok => absurd ok (fun v => v)) (fun _ => ⟨fun _ => K h7 _ ff7 p7 (fun ok => absurd ok (fun v => v)), fun z => absurd rfl z⟩))
              | inr a' =>
                have ok : isOkS (rCl T n i m q a).1 := by
                  rw [er]
                  show isOkS (rdX T n 59 (rC T n kd m q (.inr (wE T n a))).1)
                  rw [hst]
                  trivial
                have i60 : i < 60 := by omega
                have ok6 : isOkS (rC T n kd m q (.inr (wE T n a))).1 := rdX_ok (by rw [hst]; trivial)
                have wM3 := wM2 ok
                have c6' := c6 ok6
                rw [er] at he
                dsimp only at he
                rw [hst] at he p7
                dsimp only at he
                obtain ⟨p71, p72, p73⟩ := p7
                refine ih (i + 1) _ _ h7 (by omega) (by omega) wM3 (mDr_fr (fun o j z => f7 o j (by unfold mTs; omega)) c6'.1) (mCn_fr (fun j u v => f7 _ _ (by unfold mTs; omega)) c6'.2) (fun k u v => ?_) ff7 (by omega) p71 (by rw [p72]; exact he)
                have := mi k u v
                unfold mUp
                split
                · omega
                · omega
            have nm := s_num (d := d) (c := c) (R := fun _ c h => zWp (d + 3) 221 146 [(2, 113), (0, x), (0, i), (0, wC (kd + 1))] [] (zTS c h) (zQ 1 R X)) (X := X) (kd := kd) wt hkd' (mTape_fr f5' mt2) ps5 (mDr_fr (fun o j z => f5' o j (by unfold mTs; omega)) dr2) (mCn_fr (fun j u v => f5' _ _ (by unfold mTs; omega)) cn2) wM u after
            exact s_229k hkd' (fun t => ⟨fun z => absurd z (by decide), fun _ => nm.1 t⟩) (fun t => ⟨fun _ => nm.2 t, fun z => absurd rfl z⟩)
        by_cases ne : kW T n a = -1
        · have hk1 : kOf w = -1 := by rw [← hkW]; exact ne
          refine s_229n hk1 ⟨fun z => absurd rfl z, fun _ => s_231n hk1 ⟨fun z => absurd rfl z, fun _ => s_232 e54 (fail 1 (by decide) ?_)⟩⟩
          unfold rCl
          rw [if_pos ne]
        · have hkd' : 0 ≤ kOf w ∧ kOf w ≤ 11 := by omega
          have ew : w = wC (kOf w + 1) := kOf_e rfl hkd'.1
          have c89 := cont ne
          generalize hk : kOf w = kk at *
          rw [ew] at c89 ⊢
          exact s_229k hkd' (fun _ => ⟨fun _ => c89, fun z => absurd z (by decide)⟩) (fun t => ⟨fun z => absurd rfl z, fun _ => s_231k hkd' t ⟨fun _ => c89, fun z => absurd z (by decide)⟩⟩)
      · rw [← hea] at q1
        rw [if_neg q1] at he
        rw [← he] at K
        exact K h3 i (fun o j u v => by rw [f3 o j (by have := mTs2 u; omega), f2 o j u v]) ⟨by rw [f3 _ _ (by omega)]; exact e5, g3, by show 0 ≤ n ∧ n ≤ n; omega⟩ (fun _ => ⟨mDr_fr (fun o j w => f3 o j (by omega)) dr2, mCn_fr (fun j u v => f3 _ _ (by omega)) cn2, wM⟩)
  exact loop 61 0 (fun _ => 0) q00 h (by decide) (by decide) q00_w dr cn (fun k u v => Int.le_refl _) (fun _ _ _ _ => rfl) (by omega) h5 (by rw [h4])
