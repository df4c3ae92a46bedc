/-! making: a whole method -/
def xRecv (ν : Nat) (as : List zV) : Bool := (zMof ν).2.2.2.1 || (match as with
  | v :: _ => decide (v.1 = 2 ∧ (zK v.2).1 = (zMof ν).1)
  | [] => false)
theorem xRecv_ok {S : zS} {ν : Nat} {as : List zV} (h : xRecv ν as = true) : zRecv S ν as := by
  unfold xRecv at h
  rw [Bool.or_eq_true] at h
  rcases h with h | h
  · exact Or.inl h
  · cases as with
    | nil => exact Bool.noConfusion (show false = true from h)
    | cons v t =>
      have q := of_decide_eq_true h
      exact Or.inr ⟨v.2, t, by rw [show ((2 : Nat), v.2) = v by rw [← q.1]], q.2⟩
def xCall (ν : Nat) (as rest : List zV) : Bool := decide (as.length = (zMof ν).2.1) && (decide ((zArgs as).length ≤ (zMof ν).2.2.1) && (as.all (fun v => decide (v.1 ≠ 9)) && (decide ((rest.map zcat).sum ≤ 8) && xRecv ν as)))
theorem xCall_ok {ν : Nat} {as rest : List zV} (h : xCall ν as rest = true) : as.length = (zMof ν).2.1 ∧ (zArgs as).length ≤ (zMof ν).2.2.1 ∧ (∀ v ∈ as, v.1 ≠ 9) ∧ (rest.map zcat).sum ≤ 8 ∧ xRecv ν as = true := by
  unfold xCall at h
  rw [Bool.and_eq_true, Bool.and_eq_true, Bool.and_eq_true, Bool.and_eq_true] at h
  obtain ⟨h1, h2, h3, h4, h5⟩ := h
  exact ⟨of_decide_eq_true h1, of_decide_eq_true h2, fun v hv => of_decide_eq_true (List.all_eq_true.mp h3 v hv), of_decide_eq_true h4, h5⟩
def xRun : Nat → Nat → Nat → Nat → List zV → List zV → xHp → Option xHp
  | 0, _, _, _, _, _, _ => none
  | f + 1, d, μ, pc, ls, st, H => match zC μ pc with
    | none => none
    | some (op, a, b, len) =>
      if op = 33 then (if (zMof μ).2.2.2.2.1 = 0 ∧ st = [] then some H else none)
      else if op = 32 then (match d with
        | 0 => none
        | d' + 1 => if xCall a.toNat (st.take (zMof a.toNat).2.1).reverse (st.drop (zMof a.toNat).2.1) = true then
            (match xRun f d' a.toNat 0 (zEntry a.toNat (st.take (zMof a.toNat).2.1).reverse) [] H with
            | none => none
            | some H' => xRun f (d' + 1) μ (pc + 3) ls (st.drop (zMof a.toNat).2.1) H') else none)
      else match xStep op a b (pc + len) ls st H with
        | none => none
        | some (pc', ls', st', H') => xRun f d μ pc' ls' st' H'
theorem xRun_ok : ∀ (f d μ pc : Nat) (ls st : List zV) (H H' : xHp), xRun f d μ pc ls st H = some H' → ∀ (B : zH) (c : Nat) (Q : zO → Prop), Q (.inl [], xS B c H') → zWp d μ pc ls st (xS B c H) Q
  | 0, _, _, _, _, _, _, _, e => nomatch e
  | f + 1, d, μ, pc, ls, st, H, H', e => by
    intro B c Q hQ
    rw [xRun] at e
    split at e
    · cases e
    · rename_i op a b len ez
      split at e
      · rename_i q33
        split at e
        · rename_i q
          injection e with e
          subst e
          subst q33
          refine zWp_closed _ _ _ _ _ _ _ (Or.inr (Or.inl ⟨a, b, len, ez, ?_, ?_⟩))
          · rw [q.1, q.2]
            exact rfl
          · rw [q.2]
            exact hQ
        · cases e
      · split at e
        · rename_i q32
          subst q32
          split at e
          · cases e
          · rename_i d'
            split at e
            · rename_i qc
              obtain ⟨k1, k2, k3, k4, k5⟩ := xCall_ok qc
              split at e
              · cases e
              · rename_i H1 e1
                refine zWp_closed _ _ _ _ _ _ _ (Or.inr (Or.inr (Or.inr (Or.inl ⟨a, b, len, d', _, _, ez, rfl, ?_, k1, k2, k3, k4, xRecv_ok k5, xRun_ok f _ _ _ _ _ _ _ e1 B c _ ?_⟩))))
                · rw [List.reverse_reverse, List.take_append_drop]
                · exact xRun_ok f _ _ _ _ _ _ _ e B c Q hQ
            · cases e
        · split at e
          · cases e
          · rename_i pc' ls' st' H1 e1
            exact zWp_closed _ _ _ _ _ _ _ (Or.inl ⟨op, a, b, len, pc', ls', st', _, ez, xStep_ok B c μ pc pc' ls' st' H1 e1, xRun_ok f _ _ _ _ _ _ _ e B c Q hQ⟩)
