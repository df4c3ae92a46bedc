def zLi : List (List Nat) := [[425, 427], [194, 196, 198, 200, 202, 204, 206, 208, 210, 212, 214, 216], [287, 289], [372, 374, 376, 378], [401, 403, 405, 407, 409, 411, 413], [272, 274], [331, 333, 335, 337, 339, 341, 343, 345, 347, 349, 351, 353, 355], [241, 243, 245, 247, 249, 251, 253, 255, 257, 259, 261], [154, 156, 158, 160, 162, 164, 166], [449, 451, 453, 455, 457, 459, 461, 463, 465, 467, 469, 471, 473, 475, 477, 479, 481, 483], [1586, 1588, 1590, 1592, 1594, 1596, 1598, 1600, 1602, 1604, 1606, 1608, 1610, 1612, 1614, 1616, 1618, 1620, 1622, 1624, 1626, 1628, 1630, 1632, 1634, 1636, 1638, 1640, 1642, 1644, 1646, 1648, 1650, 1652, 1654, 1656, 1658, 1660, 1662, 1664, 1666, 1668, 1670, 1672, 1674, 1676, 1678, 1680, 1682, 1684, 1686, 1688, 1690, 1692, 1694, 1696, 1698, 1700, 1702, 1704, 1706, 1708, 1710, 1712, 1714, 1716, 1718, 1720, 1722, 1724, 1726, 1728, 1730]]
def zTf (ci k : Nat) : FieldType := (parseFieldDescriptor ((zT3 ci).2.1 k).2.2.1).getD .int
def zRefT (t : FieldType) : Bool := match t with
  | .object _ => true
  | .array _ => true
  | _ => false
def zCchk (ci : Nat) : Bool := (List.range (zT3 ci).2.2).all (fun k => decide (lw_tbl[(zLi.getD ci []).getD k 0]? = some (u_lay (zT3 ci).1 (zT3 ci).2.1 k)) && decide (parseFieldDescriptor ((zT3 ci).2.1 k).2.2.1 = some (zTf ci k)) && decide (((zT3 ci).2.1 k).1 = (zT3 ci).1) &&
  ((zTy ci k == 0 && decide (zTf ci k = .int)) || (zTy ci k == 1 && decide (zTf ci k = .boolean)) || (zTy ci k == 2 && zRefT (zTf ci k))) && decide (zCs ci k = 0 ∨ zTy ci k = 2))
theorem zcl_at : ∀ ci, ci < 11 → vwCl[ci]? = some (zT3 ci) := by
  intro ci h
  have : ci = 0 ∨ ci = 1 ∨ ci = 2 ∨ ci = 3 ∨ ci = 4 ∨ ci = 5 ∨ ci = 6 ∨ ci = 7 ∨ ci = 8 ∨ ci = 9 ∨ ci = 10 := by omega
  rcases this with rfl | rfl | rfl | rfl | rfl | rfl | rfl | rfl | rfl | rfl | rfl <;> rfl
set_option maxRecDepth 100000 in
theorem zC_chk : (List.range 11).all zCchk = true := by decide +kernel
theorem zN_chk : zKL.all (fun e => decide (50 ≤ e.1) || (decide (e.1 < 11) && decide (e.2 = (zT3 e.1).2.2))) = true := by decide +kernel
theorem znm : ∀ ci, ci < 11 → ∀ a, a < (zT3 ci).2.2 → ∀ b, b < (zT3 ci).2.2 → a ≠ b → ((zT3 ci).2.1 a).2.1 ≠ ((zT3 ci).2.1 b).2.1 := by
  intro ci h
  have : ci = 0 ∨ ci = 1 ∨ ci = 2 ∨ ci = 3 ∨ ci = 4 ∨ ci = 5 ∨ ci = 6 ∨ ci = 7 ∨ ci = 8 ∨ ci = 9 ∨ ci = 10 := by omega
  rcases this with rfl | rfl | rfl | rfl | rfl | rfl | rfl | rfl | rfl | rfl | rfl
  · exact nmX0
  · exact nmX1
  · exact nmX2
  · exact nmX3
  · exact nmX4
  · exact nmX5
  · exact nmX6
  · exact nmX7
  · exact nmX8
  · exact nmX9
  · exact nmX10
theorem zcf {ci k : Nat} (hc : ci < 11) (hk : k < (zT3 ci).2.2) : u_lay (zT3 ci).1 (zT3 ci).2.1 k ∈ lw_tbl ∧ parseFieldDescriptor ((zT3 ci).2.1 k).2.2.1 = some (zTf ci k) ∧ ((zT3 ci).2.1 k).1 = (zT3 ci).1 ∧ ((zTy ci k = 0 ∧ zTf ci k = .int) ∨ (zTy ci k = 1 ∧ zTf ci k = .boolean) ∨ (zTy ci k = 2 ∧ zRefT (zTf ci k) = true)) ∧ (zCs ci k = 0 ∨ zTy ci k = 2) := by
  have h := List.all_eq_true.mp (List.all_eq_true.mp zC_chk ci (List.mem_range.mpr hc)) k (List.mem_range.mpr hk)
  simp only [Bool.and_eq_true, Bool.or_eq_true, decide_eq_true_eq, beq_iff_eq] at h
  obtain ⟨⟨⟨⟨h1, h2⟩, h3⟩, h4⟩, h5⟩ := h
  refine ⟨List.mem_of_getElem? h1, h2, h3, ?_, h5⟩
  rcases h4 with (h4 | h4) | h4
  · exact Or.inl h4
  · exact Or.inr (Or.inl h4)
  · exact Or.inr (Or.inr h4)
theorem zin {ci : Nat} (hc : ci < 11) : ∀ w ∈ u_ws (zT3 ci).1 (zT3 ci).2.1 (zT3 ci).2.2, w ∈ lw_tbl := by
  intro w hw
  unfold u_ws at hw
  obtain ⟨k, hk, e⟩ := List.mem_map.mp hw
  rw [← e]
  exact (zcf hc (List.mem_range.mp hk)).1
theorem zK_cases (r : Int) : zK r = (99, 0) ∨ zK r ∈ zKL := by
  unfold zK
  rw [List.getD_eq_getElem?_getD]
  cases h : zKL[r.toNat]? with
  | none => exact Or.inl rfl
  | some v => exact Or.inr (List.mem_of_getElem? h)
theorem zKN {r : Int} {ci : Nat} (h : (zK r).1 = ci) (h50 : ci < 50) : ci < 11 ∧ (zK r).2 = (zT3 ci).2.2 := by
  rcases zK_cases r with e | e
  · rw [e] at h
    exact absurd h50 (by rw [← h]; decide)
  · have h1 := List.all_eq_true.mp zN_chk _ e
    simp only [Bool.or_eq_true, Bool.and_eq_true, decide_eq_true_eq] at h1
    rcases h1 with h1 | h1
    · omega
    · rw [← h]
      exact h1
