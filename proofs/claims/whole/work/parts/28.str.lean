/-! the two questions to a String constant -/
section ZT
variable {l : Launch} {D : va_G} {κ : Nat → ClassId} {ρ : Nat → Nat} {A : Nat → Prop} {g : Int → Int} {d μ pc len : Nat} {a b : Int} {ls st : List zV} {S : zS} {r : zO} {i : Instr}
theorem zp37 (hd : decode (zB μ) pc = .ok (i, len)) (hf : zFo (zMof μ).1 μ pc len 37 a b i = true) {j : Int} (hj0 : 0 ≤ j) (hj : j.toNat < zStr.length) (hcat : (st.map zcat).sum ≤ 8) (h : zSnd l D κ ρ A g d μ (pc + len) ls ((0, ((zStr.getD j.toNat []).length : Int)) :: st) S r) : zSnd l D κ ρ A g d μ pc ls ((5, j) :: st) S r := by
  sorry
theorem zp38 (hd : decode (zB μ) pc = .ok (i, len)) (hf : zFo (zMof μ).1 μ pc len 38 a b i = true) {k j : Int} (hj0 : 0 ≤ j) (hj : j.toNat < zStr.length) (hk0 : 0 ≤ k) (hk : k < (zStr.getD j.toNat []).length) (hcat : (st.map zcat).sum ≤ 8) (h : zSnd l D κ ρ A g d μ (pc + len) ls ((0, (zStr.getD j.toNat []).getD k.toNat 0) :: st) S r) : zSnd l D κ ρ A g d μ pc ls ((0, k) :: (5, j) :: st) S r := by
  sorry
end ZT
