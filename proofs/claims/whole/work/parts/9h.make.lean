/-! making: an executable machine for what the constructors do -/
abbrev xHp : Type := List (List Int)
def den (b : zH) (H : xHp) : zH := fun o k => if 1 ≤ o ∧ o ≤ (H.length : Int) then (if 0 ≤ k then (H.getD (o.toNat - 1) []).getD k.toNat 0 else 0) else b o k
def setL : List Int → Nat → Int → List Int
  | [], 0, v => [v]
  | [], k + 1, v => 0 :: setL [] k v
  | _ :: l, 0, v => v :: l
  | a :: l, k + 1, v => a :: setL l k v
theorem setL_at : ∀ (l : List Int) (k : Nat) (v : Int) (j : Nat), (setL l k v).getD j 0 = if j = k then v else l.getD j 0
  | [], 0, v, 0 => rfl
  | [], 0, v, j + 1 => by rw [if_neg (by omega)]; rfl
  | [], k + 1, v, 0 => by rw [if_neg (by omega)]; rfl
  | [], k + 1, v, j + 1 => by
    have := setL_at [] k v j
    show (setL [] k v).getD j 0 = _
    rw [this]
    by_cases q : j = k
    · rw [if_pos q, if_pos (by omega)]
    · rw [if_neg q, if_neg (by omega)]
      rfl
  | _ :: l, 0, v, 0 => rfl
  | _ :: l, 0, v, j + 1 => by rw [if_neg (by omega)]; rfl
  | a :: l, k + 1, v, 0 => by rw [if_neg (by omega)]; rfl
  | a :: l, k + 1, v, j + 1 => by
    have := setL_at l k v j
    show (setL l k v).getD j 0 = _
    rw [this]
    by_cases q : j = k
    · rw [if_pos q, if_pos (by omega)]
    · rw [if_neg q, if_neg (by omega)]
      rfl
def updH (H : xHp) (o k v : Int) : xHp := H.set (o.toNat - 1) (setL (H.getD (o.toNat - 1) []) k.toNat v)
theorem updH_len (H : xHp) (o k v : Int) : (updH H o k v).length = H.length := by unfold updH; rw [List.length_set]
theorem gD_set {H : xHp} {i j : Nat} {l : List Int} (hi : i < H.length) : (H.set i l).getD j [] = if j = i then l else H.getD j [] := by
  rw [List.getD_eq_getElem?_getD, List.getD_eq_getElem?_getD, List.getElem?_set]
  by_cases q : i = j
  · rw [if_pos q, if_pos hi, if_pos q.symm]
    rfl
  · rw [if_neg q, if_neg (fun e => q e.symm)]
theorem gD_app {H : xHp} {j : Nat} : (H ++ [[]]).getD j [] = H.getD j [] := by
  rw [List.getD_eq_getElem?_getD, List.getD_eq_getElem?_getD]
  by_cases q : j < H.length
  · rw [List.getElem?_append_left q]
  · rw [List.getElem?_append_right (by omega), List.getElem?_eq_none (l := H) (by omega)]
    cases j - H.length with
    | zero => rfl
    | succ n => rfl
theorem den_upd {b : zH} {H : xHp} {o k v : Int} (h1 : 1 ≤ o ∧ o ≤ (H.length : Int)) (h2 : 0 ≤ k) : den b (updH H o k v) = hw (den b H) o k v := by
  funext o' k'
  have e1 : den b (updH H o k v) o' k' = if 1 ≤ o' ∧ o' ≤ (H.length : Int) then (if 0 ≤ k' then ((updH H o k v).getD (o'.toNat - 1) []).getD k'.toNat 0 else 0) else b o' k' := by
    unfold den
    rw [updH_len]
  have e2 : (updH H o k v).getD (o'.toNat - 1) [] = if o'.toNat - 1 = o.toNat - 1 then setL (H.getD (o.toNat - 1) []) k.toNat v else H.getD (o'.toNat - 1) [] := gD_set (by omega)
  rw [e1, e2]
  by_cases q : o' = o ∧ k' = k
  · obtain ⟨q1, q2⟩ := q
    subst q1
    subst q2
    rw [hw_eq ⟨rfl, rfl⟩, if_pos h1, if_pos h2, if_pos rfl, setL_at, if_pos rfl]
  · rw [hw_ne (by omega)]
    show _ = (if 1 ≤ o' ∧ o' ≤ (H.length : Int) then (if 0 ≤ k' then (H.getD (o'.toNat - 1) []).getD k'.toNat 0 else 0) else b o' k')
    by_cases w : 1 ≤ o' ∧ o' ≤ (H.length : Int)
    · rw [if_pos w, if_pos w]
      by_cases w2 : 0 ≤ k'
      · rw [if_pos w2, if_pos w2]
        by_cases e : o' = o
        · subst e
          rw [if_pos rfl, setL_at, if_neg (by omega)]
        · rw [if_neg (by omega)]
      · rw [if_neg w2, if_neg w2]
    · rw [if_neg w, if_neg w]
theorem den_new {b : zH} {H : xHp} : den b (H ++ [[]]) = hz (den b H) ((H.length : Int) + 1) := by
  funext o k
  have e1 : den b (H ++ [[]]) o k = if 1 ≤ o ∧ o ≤ (H.length : Int) + 1 then (if 0 ≤ k then (H.getD (o.toNat - 1) []).getD k.toNat 0 else 0) else b o k := by
    unfold den
    rw [gD_app, List.length_append]
    rfl
  rw [e1]
  show _ = if o = (H.length : Int) + 1 then 0 else (if 1 ≤ o ∧ o ≤ (H.length : Int) then (if 0 ≤ k then (H.getD (o.toNat - 1) []).getD k.toNat 0 else 0) else b o k)
  by_cases q : o = (H.length : Int) + 1
  · rw [if_pos q, if_pos (by omega), show o.toNat - 1 = H.length by omega, List.getD_eq_getElem?_getD (l := H), List.getElem?_eq_none (l := H) (Nat.le_refl _)]
    split <;> rfl
  · rw [if_neg q]
    by_cases w : 1 ≤ o ∧ o ≤ (H.length : Int)
    · rw [if_pos w, if_pos (by omega)]
    · rw [if_neg w, if_neg (by omega)]
