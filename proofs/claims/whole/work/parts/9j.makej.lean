/-! making: rows of arrays, and any instruction -/
def idsL (n N : Nat) : List Int := (List.range N).map (fun i : Nat => (n : Int) + 2 + i)
theorem idsL_at {n N j : Nat} : (idsL n N).getD j 0 = if j < N then (n : Int) + 2 + j else 0 := by
  unfold idsL
  rw [List.getD_eq_getElem?_getD, List.getElem?_map]
  by_cases q : j < N
  · rw [if_pos q, List.getElem?_range q]
    rfl
  · rw [if_neg q, List.getElem?_eq_none (by rw [List.length_range]; omega)]
    rfl
theorem gD_rep {N j : Nat} : (List.replicate N ([] : List Int)).getD j [] = [] := by
  rw [List.getD_eq_getElem?_getD]
  by_cases q : j < N
  · rw [List.getElem?_replicate, if_pos q]
    rfl
  · rw [List.getElem?_replicate, if_neg q]
    rfl
theorem gD_mu {H : xHp} {l : List Int} {N j : Nat} : (H ++ (l :: List.replicate N [])).getD j [] = if j < H.length then H.getD j [] else if j = H.length then l else [] := by
  rw [List.getD_eq_getElem?_getD]
  by_cases q : j < H.length
  · rw [if_pos q, List.getElem?_append_left q, ← List.getD_eq_getElem?_getD]
  · rw [if_neg q, List.getElem?_append_right (by omega)]
    by_cases e : j = H.length
    · rw [if_pos e, e, Nat.sub_self]
      rfl
    · rw [if_neg e, show j - H.length = (j - H.length - 1) + 1 by omega, List.getElem?_cons_succ, ← List.getD_eq_getElem?_getD]
      exact gD_rep
theorem den_mu {b : zH} {H : xHp} {N : Nat} : den b (H ++ (idsL H.length N :: List.replicate N [])) = hmu (den b H) ((H.length : Int) + 1) N := by
  funext o k
  have e1 : den b (H ++ (idsL H.length N :: List.replicate N [])) o k = if 1 ≤ o ∧ o ≤ (H.length : Int) + 1 + N then (if 0 ≤ k then (if o.toNat - 1 < H.length then H.getD (o.toNat - 1) [] else if o.toNat - 1 = H.length then idsL H.length N else []).getD k.toNat 0 else 0) else b o k := by
    unfold den
    rw [gD_mu, List.length_append, List.length_cons, List.length_replicate, show ((H.length + (N + 1) : Nat) : Int) = (H.length : Int) + 1 + N by omega]
  rw [e1]
  show _ = if o = (H.length : Int) + 1 then (if 0 ≤ k ∧ k < (N : Int) then (H.length : Int) + 1 + 1 + k else 0) else if (H.length : Int) + 1 < o ∧ o ≤ (H.length : Int) + 1 + N then 0 else (if 1 ≤ o ∧ o ≤ (H.length : Int) then (if 0 ≤ k then (H.getD (o.toNat - 1) []).getD k.toNat 0 else 0) else b o k)
  by_cases q : o = (H.length : Int) + 1
  · have i1 : (if o.toNat - 1 < H.length then H.getD (o.toNat - 1) [] else if o.toNat - 1 = H.length then idsL H.length N else []) = idsL H.length N := by rw [if_neg (by omega), if_pos (by omega)]
    rw [if_pos q, if_pos (by omega), i1, idsL_at]
    by_cases w : 0 ≤ k
    · rw [if_pos w]
      by_cases w2 : k < (N : Int)
      · rw [if_pos (by omega), if_pos ⟨w, w2⟩]
        omega
      · rw [if_neg (by omega), if_neg (by omega)]
    · rw [if_neg w, if_neg (by omega)]
  · rw [if_neg q]
    by_cases w : (H.length : Int) + 1 < o ∧ o ≤ (H.length : Int) + 1 + N
    · have i1 : (if o.toNat - 1 < H.length then H.getD (o.toNat - 1) [] else if o.toNat - 1 = H.length then idsL H.length N else []) = [] := by rw [if_neg (by omega), if_neg (by omega)]
      rw [if_pos w, if_pos (by omega), i1]
      split <;> rfl
    · rw [if_neg w]
      by_cases w2 : 1 ≤ o ∧ o ≤ (H.length : Int)
      · have i1 : (if o.toNat - 1 < H.length then H.getD (o.toNat - 1) [] else if o.toNat - 1 = H.length then idsL H.length N else []) = H.getD (o.toNat - 1) [] := by rw [if_pos (by omega)]
        rw [if_pos w2, if_pos (by omega), i1]
      · rw [if_neg w2, if_neg (by omega)]
def x28 (nx : Nat) (ls st : List zV) (H : xHp) : xO := match st with
  | u :: v :: r => if u.1 = 0 ∧ v.1 = 0 ∧ 0 ≤ u.2 ∧ 0 ≤ v.2 ∧ zK ((H.length : Int) + 1) = (54, v.2.toNat) ∧ (∀ i : Nat, i < v.2.toNat → zK ((H.length : Int) + 2 + i) = (50, u.2.toNat)) then some (nx, ls, (2, (H.length : Int) + 1) :: r, H ++ (idsL H.length v.2.toNat :: List.replicate v.2.toNat [])) else none
  | _ => none
theorem x28_ok {a b : Int} {nx : Nat} {ls st : List zV} {H : xHp} : xOk 28 a b nx ls st H (x28 nx ls st H) := by
  unfold x28
  split
  · rename_i u v r
    refine xOk_i (fun q => xOk_s (fun B c _ _ => ⟨rfl, rfl, rfl, u.2, v.2, r, ?_, q.2.2.1, q.2.2.2.1, q.2.2.2.2.1, q.2.2.2.2.2, rfl, ?_⟩))
    · rw [show ((0 : Nat), u.2) = u by rw [← q.1], show ((0 : Nat), v.2) = v by rw [← q.2.1]]
    · show (false, (H ++ (idsL H.length v.2.toNat :: List.replicate v.2.toNat [])).length, c, den B (H ++ (idsL H.length v.2.toNat :: List.replicate v.2.toNat []))) = (false, H.length + 1 + v.2.toNat, c, hmu (den B H) ((H.length : Int) + 1) v.2)
      rw [den_mu, List.length_append, List.length_cons, List.length_replicate, show ((v.2.toNat : Nat) : Int) = v.2 by omega, show H.length + (v.2.toNat + 1) = H.length + 1 + v.2.toNat by omega]
  · exact xOk_0
def xStep (op : Nat) (a b : Int) (nx : Nat) (ls st : List zV) (H : xHp) : xO := if op = 1 then x1 a nx ls st H else if op = 4 then x4 a b nx ls st H else if op = 5 then x5 a b nx ls st H else if op = 7 then x7 a b nx ls st H else if op = 12 then x12 nx ls st H else if op = 16 then x16 a b nx ls st H else if op = 17 then x17 b ls st H else if op = 19 then x19 a b nx ls st H else if op = 20 then x20 a b nx ls st H else if op = 21 then x21 nx ls st H else if op = 22 then x22 a nx ls st H else if op = 23 then x23 a nx ls st H else if op = 24 then x24 nx ls st H else if op = 25 then x25 a nx ls st H else if op = 26 then x26 a nx ls st H else if op = 27 then x27 nx ls st H else if op = 28 then x28 nx ls st H else if op = 29 then x29 nx ls st H else if op = 30 then x30 nx ls st H else if op = 31 then x31 nx ls st H else none
theorem xStep_ok {op : Nat} {a b : Int} {nx : Nat} {ls st : List zV} {H : xHp} : xOk op a b nx ls st H (xStep op a b nx ls st H) := by
  unfold xStep
  by_cases e1 : op = 1
  · rw [if_pos e1, e1]
    exact x1_ok
  rw [if_neg e1]
  by_cases e4 : op = 4
  · rw [if_pos e4, e4]
    exact x4_ok
  rw [if_neg e4]
  by_cases e5 : op = 5
  · rw [if_pos e5, e5]
    exact x5_ok
  rw [if_neg e5]
  by_cases e7 : op = 7
  · rw [if_pos e7, e7]
    exact x7_ok
  rw [if_neg e7]
  by_cases e12 : op = 12
  · rw [if_pos e12, e12]
    exact x12_ok
  rw [if_neg e12]
  by_cases e16 : op = 16
  · rw [if_pos e16, e16]
    exact x16_ok
  rw [if_neg e16]
  by_cases e17 : op = 17
  · rw [if_pos e17, e17]
    exact x17_ok
  rw [if_neg e17]
  by_cases e19 : op = 19
  · rw [if_pos e19, e19]
    exact x19_ok
  rw [if_neg e19]
  by_cases e20 : op = 20
  · rw [if_pos e20, e20]
    exact x20_ok
  rw [if_neg e20]
  by_cases e21 : op = 21
  · rw [if_pos e21, e21]
    exact x21_ok
  rw [if_neg e21]
  by_cases e22 : op = 22
  · rw [if_pos e22, e22]
    exact x22_ok
  rw [if_neg e22]
  by_cases e23 : op = 23
  · rw [if_pos e23, e23]
    exact x23_ok
  rw [if_neg e23]
  by_cases e24 : op = 24
  · rw [if_pos e24, e24]
    exact x24_ok
  rw [if_neg e24]
  by_cases e25 : op = 25
  · rw [if_pos e25, e25]
    exact x25_ok
  rw [if_neg e25]
  by_cases e26 : op = 26
  · rw [if_pos e26, e26]
    exact x26_ok
  rw [if_neg e26]
  by_cases e27 : op = 27
  · rw [if_pos e27, e27]
    exact x27_ok
  rw [if_neg e27]
  by_cases e28 : op = 28
  · rw [if_pos e28, e28]
    exact x28_ok
  rw [if_neg e28]
  by_cases e29 : op = 29
  · rw [if_pos e29, e29]
    exact x29_ok
  rw [if_neg e29]
  by_cases e30 : op = 30
  · rw [if_pos e30, e30]
    exact x30_ok
  rw [if_neg e30]
  by_cases e31 : op = 31
  · rw [if_pos e31, e31]
    exact x31_ok
  rw [if_neg e31]
  exact xOk_0
