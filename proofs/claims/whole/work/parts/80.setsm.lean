/-! the road's text: the reference's draft emptied, and set in force -/
theorem s_216 {d c : Nat} {R : Int → Nat → zH → Prop} {X : Nat → Nat → zH → Prop} {h : zH} (K : ∀ h', (∀ o j, ¬ mDs o j → h' o j = h o j) → mDr h' q00 (fun _ => 0) → mCn h' (fun _ => 0) → R 0 c h') : zCl d 216 [(2, 113)] c h R X := by
  refine b_216 ?_
  obtain ⟨h0, hh0⟩ : ∃ h0, h0 = hw (hw (hw (hw (hw (hw h 113 26 0) 113 27 0) 113 28 0) 113 29 0) 113 30 0) 113 31 0 := ⟨_, rfl⟩
  rw [← hh0]
  have fr0 : ∀ o j, ¬ mDs o j → h0 o j = h o j := fun o j a => by
    unfold mDs at a
    rw [hh0, hw_ne (by omega), hw_ne (by omega), hw_ne (by omega), hw_ne (by omega), hw_ne (by omega), hw_ne (by omega)]
  have cn0 : mCn h0 (fun _ => 0) := by
    rw [hh0]
    refine ⟨?_, ?_, ?_, ?_, ?_, ?_⟩
    · rw [hw_ne (by omega), hw_ne (by omega), hw_ne (by omega), hw_ne (by omega), hw_ne (by omega), hw_eq ⟨rfl, rfl⟩]
    · rw [hw_ne (by omega), hw_ne (by omega), hw_ne (by omega), hw_ne (by omega), hw_eq ⟨rfl, rfl⟩]
    · rw [hw_ne (by omega), hw_ne (by omega), hw_ne (by omega), hw_eq ⟨rfl, rfl⟩]
    · rw [hw_ne (by omega), hw_ne (by omega), hw_eq ⟨rfl, rfl⟩]
    · rw [hw_ne (by omega), hw_eq ⟨rfl, rfl⟩]
    · rw [hw_eq ⟨rfl, rfl⟩]
  have main := zDown (W := fun i : Nat => ∀ h1, (∀ o j, o ≠ 118 → h1 o j = h0 o j) → (∀ k : Int, 0 ≤ k → k < i → h1 118 k = 3) → zWp d 216 32 [(2, 113), (0, (i : Int))] [] (zTS c h1) (zQ 0 R X)) 60 ?_ ?_ 0 (by decide) h0 (fun _ _ _ => rfl) (fun k a b => by omega)
  · exact main
  · intro h1 f1 g1
    refine b_216_32 ⟨fun _ => ?_, fun w => by omega⟩
    have inner := zDown (W := fun i : Nat => ∀ h2, (∀ o j, o ≠ 128 → h2 o j = h1 o j) → (∀ k : Int, 0 ≤ k → k < i → h2 128 k = 0) → zWp d 216 53 [(2, 113), (0, (i : Int))] [] (zTS c h2) (zQ 0 R X)) 241 ?_ ?_ 0 (by decide) h1 (fun _ _ _ => rfl) (fun k a b => by omega)
    · exact inner
    · intro h2 f2 g2
      refine b_216_53 ⟨fun _ => ?_, fun w => by omega⟩
      refine K _ (fun o j a => ?_) ⟨?_, ?_, ?_, ?_, ?_, ?_, ?_, ?_⟩ (mCn_fr (fun j a b => ?_) cn0)
      · have a' := a
        unfold mDs at a'
        rw [hw_ne (by omega), hw_ne (by omega), hw_ne (by omega), hw_ne (by omega), hw_ne (by omega), f2 _ _ (by omega), f1 _ _ (by omega), fr0 o j a]
      · refine ⟨?_, ?_, ?_, ?_, ?_⟩
        · rw [hw_ne (by omega), hw_ne (by omega), hw_ne (by omega), hw_ne (by omega), hw_eq ⟨rfl, rfl⟩]; rfl
        · rw [hw_ne (by omega), hw_ne (by omega), hw_ne (by omega), hw_eq ⟨rfl, rfl⟩]; rfl
        · rw [hw_ne (by omega), hw_ne (by omega), hw_eq ⟨rfl, rfl⟩]; rfl
        · rw [hw_ne (by omega), hw_eq ⟨rfl, rfl⟩]; rfl
        · rw [hw_eq ⟨rfl, rfl⟩]; rfl
      · exact fun k a b => absurd b (show ¬ k < (0 : Int) by omega)
      · exact fun k a b => absurd b (show ¬ k < (0 : Int) by omega)
      · intro k a b
        rw [hw_ne (by omega), hw_ne (by omega), hw_ne (by omega), hw_ne (by omega), hw_ne (by omega), f2 _ _ (by omega), g1 k a b]
        rfl
      · exact fun k a b => absurd b (show ¬ k < (0 : Int) by omega)
      · exact fun k a b => absurd b (show ¬ k < (0 : Int) by omega)
      · exact fun k a b => absurd b (show ¬ k < (0 : Int) by omega)
      · intro k a b
        rw [hw_ne (by omega), hw_ne (by omega), hw_ne (by omega), hw_ne (by omega), hw_ne (by omega), g2 k a b]
        rfl
      · rw [hw_ne (by omega), hw_ne (by omega), hw_ne (by omega), hw_ne (by omega), hw_ne (by omega), f2 _ _ (by omega), f1 _ _ (by omega)]
    · intro i hi ih h2 f2 g2
      refine b_216_53 ⟨fun w => by omega, fun _ => ⟨by omega, ?_⟩⟩
      rw [w32_s (by omega)]
      refine ih _ (fun o j a => by rw [hw_ne (by omega), f2 o j a]) (fun k a b => ?_)
      by_cases w : k = i
      · rw [hw_eq ⟨rfl, w⟩]
      · rw [hw_ne (by omega)]
        exact g2 k a (by omega)
  · intro i hi ih h1 f1 g1
    refine b_216_32 ⟨fun w => by omega, fun _ => ⟨by omega, ?_⟩⟩
    rw [w32_s (by omega)]
    refine ih _ (fun o j a => by rw [hw_ne (by omega), f1 o j a]) (fun k a b => ?_)
    by_cases w : k = i
    · rw [hw_eq ⟨rfl, w⟩]
    · rw [hw_ne (by omega)]
      exact g1 k a (by omega)
def mSt (o j : Int) : Prop := (o = 113 ∧ ((32 ≤ j ∧ j ≤ 36) ∨ j = 43 ∨ j = 49 ∨ j = 50 ∨ j = 70 ∨ j = 72)) ∨ (122 ≤ o ∧ o ≤ 127) ∨ o = 129 ∨ o = 131 ∨ o = 141
theorem s_217 {d c : Nat} {R : Int → Nat → zH → Prop} {X : Nat → Nat → zH → Prop} {h q : zH} {m : Int → Int} (dr : mDr h q m) (cn : mCn h m) (wd : wDf m q) (K : ∀ h', (∀ o j, ¬ mSt o j → h' o j = h o j) → mRoad h' (rEnd m q) → (h' 113 43 = 0 ∧ h' 113 49 = 0 ∧ h' 113 50 = 0 ∧ h' 113 70 = 0 ∧ h' 113 72 = 0) → (∀ k : Int, 0 ≤ k → k < 3 → h' 141 k = -1) → R 0 c h') : zCl (d + 1) 217 [(2, 113)] c h R X := by
  obtain ⟨dA, dB, dC, dD, dE, dF, dG, dH⟩ := dr
  obtain ⟨c0, c1, c3, c5, c7, c9⟩ := cn
  have wM := wd.1
  have m0 := wM 0 (by decide) (by decide)
  have m1 := wM 1 (by decide) (by decide)
  have m5 := wM 5 (by decide) (by decide)
  have m7 := wM 7 (by decide) (by decide)
  have m9 := wM 9 (by decide) (by decide)
  have k0 : kM 0 = 4 := rfl
  have k1 : kM 1 = 12 := rfl
  have k5 : kM 5 = 6 := rfl
  have k7 : kM 7 = 8 := rfl
  have k9 : kM 9 = 4 := rfl
  have wJ : wDfJ m q := wd.2.2.2.2.2.2.2.2.2
  unfold wDfJ at wJ
  unfold mDrA at dA
  unfold mDrB at dB
  unfold mDrC at dC
  unfold mDrD at dD
  unfold mDrE at dE
  unfold mDrF at dF
  unfold mDrG at dG
  unfold mDrH at dH
  refine b_217 ?_
  obtain ⟨h0, hh0⟩ : ∃ h0, h0 = hw (hw (hw (hw (hw h 113 32 (h 113 26)) 113 33 (h 113 27)) 113 34 (h 113 29)) 113 35 (h 113 30)) 113 36 (h 113 31) := ⟨_, rfl⟩
  rw [← hh0]
  have fr0 : ∀ o j, ¬ (o = 113 ∧ 32 ≤ j ∧ j ≤ 36) → h0 o j = h o j := fun o j a => by
    rw [hh0, hw_ne (by omega), hw_ne (by omega), hw_ne (by omega), hw_ne (by omega), hw_ne (by omega)]
  have e32 : h0 113 32 = m 0 := by rw [hh0, hw_ne (by omega), hw_ne (by omega), hw_ne (by omega), hw_ne (by omega), hw_eq ⟨rfl, rfl⟩, c0]
  have e33 : h0 113 33 = m 1 := by rw [hh0, hw_ne (by omega), hw_ne (by omega), hw_ne (by omega), hw_eq ⟨rfl, rfl⟩, c1]
  have e34 : h0 113 34 = m 5 := by rw [hh0, hw_ne (by omega), hw_ne (by omega), hw_eq ⟨rfl, rfl⟩, c5]
  have e35 : h0 113 35 = m 7 := by rw [hh0, hw_ne (by omega), hw_eq ⟨rfl, rfl⟩, c7]
  have e36 : h0 113 36 = m 9 := by rw [hh0, hw_eq ⟨rfl, rfl⟩, c9]
  refine s_218 (m := 4) zo_116 zo_122 (by decide) (by decide) (fun h1 f1 g1 _ => ?_)
  refine s_218 (m := 60) zo_117 zo_123 (by decide) (by decide) (fun h2 f2 g2 _ => ?_)
  refine s_218 (m := 60) zo_118 zo_124 (by decide) (by decide) (fun h3 f3 g3 _ => ?_)
  refine s_218 (m := 6) zo_119 zo_125 (by decide) (by decide) (fun h4 f4 g4 _ => ?_)
  refine s_218 (m := 8) zo_120 zo_126 (by decide) (by decide) (fun h5 f5 g5 _ => ?_)
  refine s_218 (m := 16) zo_121 zo_127 (by decide) (by decide) (fun h6 f6 g6 _ => ?_)
  refine s_218 (m := 5) zo_130 zo_131 (by decide) (by decide) (fun h7 f7 g7 _ => ?_)
  have ff : ∀ o j, ¬ (122 ≤ o ∧ o ≤ 127) → o ≠ 131 → h7 o j = h0 o j := fun o j a b => by
    rw [f7 _ _ b, f6 _ _ (by omega), f5 _ _ (by omega), f4 _ _ (by omega), f3 _ _ (by omega), f2 _ _ (by omega), f1 _ _ (by omega)]
  have v122 : ∀ j : Int, 0 ≤ j → j < 4 → h7 122 j = h 116 j := fun j a b => by
    rw [f7 _ _ (by omega), f6 _ _ (by omega), f5 _ _ (by omega), f4 _ _ (by omega), f3 _ _ (by omega), f2 _ _ (by omega), g1 j a b, fr0 _ _ (by omega)]
  have v123 : ∀ j : Int, 0 ≤ j → j < 60 → h7 123 j = h 117 j := fun j a b => by
    rw [f7 _ _ (by omega), f6 _ _ (by omega), f5 _ _ (by omega), f4 _ _ (by omega), f3 _ _ (by omega), g2 j a b, f1 _ _ (by omega), fr0 _ _ (by omega)]
  have v124 : ∀ j : Int, 0 ≤ j → j < 60 → h7 124 j = h 118 j := fun j a b => by
    rw [f7 _ _ (by omega), f6 _ _ (by omega), f5 _ _ (by omega), f4 _ _ (by omega), g3 j a b, f2 _ _ (by omega), f1 _ _ (by omega), fr0 _ _ (by omega)]
  have v125 : ∀ j : Int, 0 ≤ j → j < 6 → h7 125 j = h 119 j := fun j a b => by
    rw [f7 _ _ (by omega), f6 _ _ (by omega), f5 _ _ (by omega), g4 j a b, f3 _ _ (by omega), f2 _ _ (by omega), f1 _ _ (by omega), fr0 _ _ (by omega)]
  have v126 : ∀ j : Int, 0 ≤ j → j < 8 → h7 126 j = h 120 j := fun j a b => by
    rw [f7 _ _ (by omega), f6 _ _ (by omega), g5 j a b, f4 _ _ (by omega), f3 _ _ (by omega), f2 _ _ (by omega), f1 _ _ (by omega), fr0 _ _ (by omega)]
  have v127 : ∀ j : Int, 0 ≤ j → j < 16 → h7 127 j = h 121 j := fun j a b => by
    rw [f7 _ _ (by omega), g6 j a b, f5 _ _ (by omega), f4 _ _ (by omega), f3 _ _ (by omega), f2 _ _ (by omega), f1 _ _ (by omega), fr0 _ _ (by omega)]
  have v131 : ∀ j : Int, 0 ≤ j → j < 5 → h7 131 j = h 130 j := fun j a b => by
    rw [g7 j a b, f6 _ _ (by omega), f5 _ _ (by omega), f4 _ _ (by omega), f3 _ _ (by omega), f2 _ _ (by omega), f1 _ _ (by omega), fr0 _ _ (by omega)]
  have main := zDown (W := fun i : Nat => ∀ h8, (∀ o j, o ≠ 129 → h8 o j = h7 o j) → (∀ k : Int, 0 ≤ k → k < i → h8 129 k = q 14 k) → zWp (d + 1) 217 138 [(2, 113), (0, (i : Int))] [] (zTS c h8) (zQ 0 R X)) 241 ?_ ?_ 0 (by decide) h7 (fun _ _ _ => rfl) (fun k a b => by omega)
  · exact main
  · intro h8 f8 g8
    refine b_217_138 ⟨fun _ => ?_, fun w => by omega⟩
    obtain ⟨h9, hh9⟩ : ∃ h9, h9 = hw (hw h8 113 43 0) 113 49 0 := ⟨_, rfl⟩
    rw [← hh9]
    have f9 : ∀ o j, ¬ (o = 113 ∧ (j = 43 ∨ j = 49)) → h9 o j = h8 o j := fun o j a => by rw [hh9, hw_ne (by omega), hw_ne (by omega)]
    have inner := zDown (W := fun i : Nat => ∀ h10, (∀ o j, o ≠ 141 → h10 o j = h9 o j) → (∀ k : Int, 0 ≤ k → k < i → h10 141 k = -1) → zWp (d + 1) 217 175 [(2, 113), (0, (i : Int))] [] (zTS c h10) (zQ 0 R X)) 3 ?_ ?_ 0 (by decide) h9 (fun _ _ _ => rfl) (fun k a b => by omega)
    · exact inner
    · intro h10 f10 g10
      refine b_217_175 ⟨fun _ => ?_, fun w => by omega⟩
      have ft : ∀ o j, ¬ (o = 113 ∧ (j = 43 ∨ j = 49 ∨ j = 50 ∨ j = 70 ∨ j = 72)) → o ≠ 141 → o ≠ 129 → (hw (hw (hw h10 113 50 0) 113 70 0) 113 72 0) o j = h7 o j := fun o j a b e => by
        rw [hw_ne (by omega), hw_ne (by omega), hw_ne (by omega), f10 _ _ b, f9 _ _ (by omega), f8 _ _ e]
      refine K _ (fun o j a => ?_) ?_ ⟨?_, ?_, ?_, ?_, ?_⟩ (fun k a b => ?_)
      · unfold mSt at a
        rw [ft _ _ (by omega) (by omega) (by omega), ff _ _ (by omega) (by omega), fr0 _ _ (by omega)]
      · unfold mRoad
        rw [rEnd_r (o := 1) (by decide), rEnd_r (o := 2) (by decide), rEnd_r (o := 3) (by decide), rEnd_r (o := 4) (by decide), rEnd_r (o := 5) (by decide), rEnd_r (o := 6) (by decide), rEnd_r (o := 7) (by decide), rEnd_r (o := 8) (by decide), rEnd_r (o := 9) (by decide), rEnd_r (o := 10) (by decide), rEnd_r (o := 11) (by decide), rEnd_r (o := 12) (by decide), rEnd_r (o := 13) (by decide), rEnd_r (o := 14) (by decide)]
        rw [rEnd_o (k := 5) (by decide), rEnd_o (k := 6) (by decide), rEnd_o (k := 7) (by decide), rEnd_o (k := 8) (by decide), rEnd_o (k := 9) (by decide), show rEnd m q 0 0 = m 0 from rfl, show rEnd m q 0 1 = m 1 from rfl, show rEnd m q 0 2 = m 5 from rfl, show rEnd m q 0 3 = m 7 from rfl, show rEnd m q 0 4 = m 9 from rfl]
        refine ⟨?_, ?_, ?_, ?_, ?_, ⟨?_, ?_, ?_, ?_, ?_⟩, fun k a b => ?_, fun k a b => ?_, fun k a b => ?_, fun k a b => ?_, fun k a b => ?_, fun k a b => ?_, fun k a b => ?_⟩
        · rw [ft _ _ (by omega) (by omega) (by omega), ff _ _ (by omega) (by omega), e32]
        · rw [ft _ _ (by omega) (by omega) (by omega), ff _ _ (by omega) (by omega), e33]
        · rw [ft _ _ (by omega) (by omega) (by omega), ff _ _ (by omega) (by omega), e34]
        · rw [ft _ _ (by omega) (by omega) (by omega), ff _ _ (by omega) (by omega), e35]
        · rw [ft _ _ (by omega) (by omega) (by omega), ff _ _ (by omega) (by omega), e36]
        · rw [ft _ _ (by omega) (by omega) (by omega), v131 _ (by decide) (by decide)]; exact dA.1
        · rw [ft _ _ (by omega) (by omega) (by omega), v131 _ (by decide) (by decide)]; exact dA.2.1
        · rw [ft _ _ (by omega) (by omega) (by omega), v131 _ (by decide) (by decide)]; exact dA.2.2.1
        · rw [ft _ _ (by omega) (by omega) (by omega), v131 _ (by decide) (by decide)]; exact dA.2.2.2.1
        · rw [ft _ _ (by omega) (by omega) (by omega), v131 _ (by decide) (by decide)]; exact dA.2.2.2.2
        · rw [ft _ _ (by omega) (by omega) (by omega), v122 _ (by omega) (by omega)]; exact dB k a b
        · rw [ft _ _ (by omega) (by omega) (by omega), ft _ _ (by omega) (by omega) (by omega), ft _ _ (by omega) (by omega) (by omega), ft _ _ (by omega) (by omega) (by omega), ft _ _ (by omega) (by omega) (by omega), v123 _ (by omega) (by omega), v123 _ (by omega) (by omega), v123 _ (by omega) (by omega), v123 _ (by omega) (by omega), v123 _ (by omega) (by omega)]; exact dC k a b
        · rw [ft _ _ (by omega) (by omega) (by omega), v124 _ (by omega) (by omega)]; exact dD k a b
        · rw [ft _ _ (by omega) (by omega) (by omega), v125 _ (by omega) (by omega)]; exact dE k a b
        · rw [ft _ _ (by omega) (by omega) (by omega), v126 _ (by omega) (by omega)]; exact dF k a b
        · rw [ft _ _ (by omega) (by omega) (by omega), ft _ _ (by omega) (by omega) (by omega), ft _ _ (by omega) (by omega) (by omega), ft _ _ (by omega) (by omega) (by omega), v127 _ (by omega) (by omega), v127 _ (by omega) (by omega), v127 _ (by omega) (by omega), v127 _ (by omega) (by omega)]; exact dG k a b
        · rw [hw_ne (by omega), hw_ne (by omega), hw_ne (by omega), f10 _ _ (by omega), f9 _ _ (by omega), g8 k a b]
      · rw [hw_ne (by omega), hw_ne (by omega), hw_ne (by omega), f10 _ _ (by omega), hh9, hw_ne (by omega), hw_eq ⟨rfl, rfl⟩]
      · rw [hw_ne (by omega), hw_ne (by omega), hw_ne (by omega), f10 _ _ (by omega), hh9, hw_eq ⟨rfl, rfl⟩]
      · rw [hw_ne (by omega), hw_ne (by omega), hw_eq ⟨rfl, rfl⟩]
      · rw [hw_ne (by omega), hw_eq ⟨rfl, rfl⟩]
      · rw [hw_eq ⟨rfl, rfl⟩]
      · rw [hw_ne (by omega), hw_ne (by omega), hw_ne (by omega), g10 k a b]
    · intro i hi ih h10 f10 g10
      refine b_217_175 ⟨fun w => by omega, fun _ => ⟨by omega, ?_⟩⟩
      rw [w32_s (by omega)]
      refine ih _ (fun o j a => by rw [hw_ne (by omega), f10 o j a]) (fun k a b => ?_)
      by_cases w : k = i
      · rw [hw_eq ⟨rfl, w⟩]
      · rw [hw_ne (by omega)]
        exact g10 k a (by omega)
  · intro i hi ih h8 f8 g8
    have e128 : h8 128 i = q 14 i := by rw [f8 _ _ (by omega), ff _ _ (by omega) (by omega), fr0 _ _ (by omega)]; exact dH i (by omega) (by omega)
    have r14 := wJ i (by omega) (by omega)
    refine b_217_138 ⟨fun w => by omega, fun _ => ⟨by omega, by omega, by omega, ?_⟩⟩
    rw [w32_s (by omega)]
    refine ih _ (fun o j a => by rw [hw_ne (by omega), f8 o j a]) (fun k a b => ?_)
    by_cases w : k = i
    · rw [hw_eq ⟨rfl, w⟩, w, e128]
    · rw [hw_ne (by omega)]
      exact g8 k a (by omega)
