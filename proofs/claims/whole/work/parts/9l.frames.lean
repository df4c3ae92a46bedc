/-! making: whole runs, frame by frame, so that they can be cut anywhere -/
abbrev yFr : Type := Nat × Nat × List zV × List zV
abbrev yCf : Type := Nat × Nat × Nat × List zV × List zV × List yFr × xHp
def yStep (C : yCf) : Option yCf := match C with
  | (d, μ, pc, ls, st, F, H) => match zC μ pc with
    | none => none
    | some (op, a, b, len) =>
      if op = 33 then (if (zMof μ).2.2.2.2.1 = 0 ∧ st = [] then (match F with
        | [] => none
        | (μ', pc', ls', st') :: F' => some (d + 1, μ', pc' + 3, ls', st', F', H)) else none)
      else if op = 32 then (match d with
        | 0 => none
        | d' + 1 => if xCall a.toNat (st.take (zMof a.toNat).2.1).reverse (st.drop (zMof a.toNat).2.1) = true then
            some (d', a.toNat, 0, zEntry a.toNat (st.take (zMof a.toNat).2.1).reverse, [], (μ, pc, ls, st.drop (zMof a.toNat).2.1) :: F, H) else none)
      else match xStep op a b (pc + len) ls st H with
        | none => none
        | some (pc', ls', st', H') => some (d, μ, pc', ls', st', F, H')
def yRun : Nat → yCf → Option yCf
  | 0, C => some C
  | n + 1, C => match yStep C with
    | none => none
    | some C' => yRun n C'
def yQ : Nat → List yFr → (zO → Prop) → zO → Prop
  | _, [], Q => Q
  | d, (μ, pc, ls, st) :: F, Q => zAft zWp (d + 1) μ pc ls st (yQ (d + 1) F Q)
def yW (B : zH) (c : Nat) (Q : zO → Prop) (C : yCf) : Prop := zWp C.1 C.2.1 C.2.2.1 C.2.2.2.1 C.2.2.2.2.1 (xS B c C.2.2.2.2.2.2) (yQ C.1 C.2.2.2.2.2.1 Q)
theorem yStep_ok {B : zH} {c : Nat} {Q : zO → Prop} {C C' : yCf} (e : yStep C = some C') (w : yW B c Q C') : yW B c Q C := by
  obtain ⟨d, μ, pc, ls, st, F, H⟩ := C
  unfold yStep at e
  dsimp only at e
  split at e
  · cases e
  · rename_i op a b len ez
    split at e
    · rename_i q33
      subst q33
      split at e
      · rename_i q
        split at e
        · cases e
        · rename_i μ' pc' ls' st' F'
          injection e with e
          subst e
          refine zWp_closed _ _ _ _ _ _ _ (Or.inr (Or.inl ⟨a, b, len, ez, ?_, ?_⟩))
          · show zRetOk (zMof μ).2.2.2.2.1 st
            rw [q.1, q.2]
            exact rfl
          · show zAft zWp (d + 1) μ' pc' ls' st' (yQ (d + 1) F' Q) (.inl st, xS B c H)
            rw [q.2]
            exact w
      · cases e
    · split at e
      · rename_i q32
        subst q32
        split at e
        · cases e
        · rename_i d'
          split at e
          · rename_i qc
            obtain ⟨k1, k2, k3, k4, k5⟩ := xCall_ok qc
            injection e with e
            subst e
            refine zWp_closed _ _ _ _ _ _ _ (Or.inr (Or.inr (Or.inr (Or.inl ⟨a, b, len, d', _, _, ez, rfl, ?_, k1, k2, k3, k4, xRecv_ok k5, w⟩))))
            rw [List.reverse_reverse, List.take_append_drop]
          · cases e
      · split at e
        · cases e
        · rename_i pc' ls' st' H1 e1
          injection e with e
          subst e
          exact zWp_closed _ _ _ _ _ _ _ (Or.inl ⟨op, a, b, len, pc', ls', st', _, ez, xStep_ok B c μ pc pc' ls' st' H1 e1, w⟩)
theorem yRun_ok {B : zH} {c : Nat} {Q : zO → Prop} : ∀ {n : Nat} {C C' : yCf}, yRun n C = some C' → yW B c Q C' → yW B c Q C
  | 0, C, C', e, w => by
    injection e with e
    rw [e]
    exact w
  | n + 1, C, C', e, w => by
    unfold yRun at e
    split at e
    · cases e
    · rename_i C1 e1
      exact yStep_ok e1 (yRun_ok e w)
