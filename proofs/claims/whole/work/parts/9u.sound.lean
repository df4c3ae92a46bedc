/-! the abstract machine is sound: what it says of a place, the machine does -/
section ZT
variable {l : Launch} {D : va_G} {κ : Nat → ClassId} {ρ : Nat → Nat} {A : Nat → Prop} {g : Int → Int} {d μ pc len op : Nat} {a b : Int} {ls st ls' st' : List zV} {S S' : zS} {r : zO} {pc' : Nat}
theorem z_step (hμ : μ < 335) (hc : zC μ pc = some (op, a, b, len)) (hR : zR op a b (pc + len) μ pc ls st S pc' ls' st' S') (h : zSnd l D κ ρ A g d μ pc' ls' st' S' r) : zSnd l D κ ρ A g d μ pc ls st S r := by
  obtain ⟨i, hd, hf⟩ := zDec hμ hc
  unfold zR at hR
  split at hR
  · obtain ⟨rfl, rfl, rfl, rfl⟩ := hR
    exact zp1 hd hf h
  · obtain ⟨rfl, rfl, rfl, rfl⟩ := hR
    exact zp2 hd hf h
  · obtain ⟨rfl, rfl, rfl, rfl⟩ := hR
    exact zp3 hd hf h
  · obtain ⟨rfl, rfl, rfl, v, h1, h2, rfl⟩ := hR
    exact zp4 hd hf h1 h2 h
  · obtain ⟨rfl, rfl, v, rfl, h1, h2, rfl⟩ := hR
    exact zp5 hd hf h1 h2 h
  · obtain ⟨rfl, rfl, x, rfl, h1, rfl⟩ := hR
    exact zp6 hd hf h1 h
  · obtain ⟨rfl, rfl, rfl, x, h1, rfl⟩ := hR
    exact zp7 hd hf h1 h
  · obtain ⟨rfl, rfl, rfl, x, y, q, c, rfl, h1, rfl⟩ := hR
    exact zp8 hd hf h1 h
  · obtain ⟨rfl, rfl, rfl, x, y, q, c, rfl, h1, rfl⟩ := hR
    exact zp9 hd hf h1 h
  · obtain ⟨rfl, rfl, rfl, x, y, q, rfl, rfl⟩ := hR
    exact zp10 hd hf h
  · obtain ⟨rfl, rfl, rfl, x, q, v, rfl, h1, rfl⟩ := hR
    exact zp11 hd hf h1 h
  · obtain ⟨rfl, rfl, rfl, v, q, rfl, h1, rfl⟩ := hR
    exact zp12 hd hf h1 h
  · obtain ⟨rfl, rfl, rfl, v, rfl, h1⟩ := hR
    exact zp13 hd hf h1 h
  · obtain ⟨rfl, rfl, rfl, v, w, q, rfl, h1, h2, rfl⟩ := hR
    exact zp14 hd hf h1 h2 h
  · obtain ⟨rfl, rfl, x, rfl, rfl⟩ := hR
    exact zp15 hd hf h
  · obtain ⟨rfl, rfl, x, y, rfl, rfl⟩ := hR
    exact zp16 hd hf h
  · obtain ⟨rfl, rfl, rfl, rfl⟩ := hR
    exact zp17 hd hf h
  · obtain ⟨rfl, rfl, x, rfl, rfl⟩ := hR
    exact zp18 hd hf h
  · obtain ⟨rfl, rfl, rfl, o, q, rfl, h1, h2, rfl⟩ := hR
    exact zp19 hd hf h1 h2 h
  · obtain ⟨rfl, rfl, v, o, rfl, h1, h2, h3, h4, rfl⟩ := hR
    exact zp20 hd hf hμ hc h1 h2 h3 h4 h
  · obtain ⟨rfl, rfl, rfl, q, ⟨o, rfl, h1, h2, rfl⟩ | ⟨rfl, rfl⟩ | ⟨rfl, rfl⟩⟩ := hR
    · exact zp21 hd hf h1 h2 h
    · exact zp21a hd hf h
    · exact zp21b hd hf h
  · obtain ⟨rfl, rfl, rfl, j, q, ⟨o, rfl, h1, h2, h3, rfl⟩ | ⟨h0, rfl, h1, h2, rfl⟩ | ⟨h0, rfl, h1, h2, rfl⟩⟩ := hR
    · exact zp22 hd hf h1 h2 h3 h
    · exact zp22a hd hf h0 h1 h2 h
    · exact zp22b hd hf h0 h1 h2 h
  · obtain ⟨rfl, rfl, v, j, o, rfl, h1, h2, h3, h4, h5, rfl⟩ := hR
    exact zp23 hd hf h1 h2 h3 h4 h5 h
  · obtain ⟨rfl, rfl, rfl, j, o, q, rfl, h1, h2, h3, h4, rfl⟩ := hR
    exact zp24 hd hf h1 h2 h3 h4 h
  · obtain ⟨bb, n, cx, h0⟩ := S
    obtain ⟨rfl, rfl, h1, h2, rfl, rfl⟩ := hR
    have h1 : bb = false := h1
    subst h1
    exact zp25 hd hf h2 h
  · obtain ⟨bb, n, cx, h0⟩ := S
    obtain ⟨rfl, rfl, h1, k, q, rfl, h2, h3, rfl, rfl⟩ := hR
    have h1 : bb = false := h1
    subst h1
    exact zp26 hd hf h2 h3 h
  · obtain ⟨bb, n, cx, h0⟩ := S
    obtain ⟨rfl, rfl, h1, k, q, rfl, h2, h3, rfl, rfl⟩ := hR
    have h1 : bb = false := h1
    subst h1
    exact zp27 hd hf h2 h3 h
  · obtain ⟨bb, n, cx, h0⟩ := S
    obtain ⟨rfl, rfl, h1, k, N, q, rfl, h2, h3, h4, h5, rfl, rfl⟩ := hR
    have h1 : bb = false := h1
    subst h1
    exact zp28 hd hf h2 h3 h4 h5 h
  · obtain ⟨rfl, rfl, h0, v, j, o, rfl, h1, h2, h3, h4, rfl⟩ := hR
    exact zp29 hd hf h1 h2 h3 h4 h0 h
  · obtain ⟨rfl, rfl, rfl, o, rfl, h1⟩ := hR
    exact zp30 hd hf h1 h
  · obtain ⟨rfl, rfl, rfl, rfl⟩ := hR
    exact zp31 hd hf h
  · obtain ⟨rfl, rfl, rfl, q, ⟨h0, x, y, rfl, rfl, h1⟩ | ⟨h0, x, rfl, rfl, h1⟩⟩ := hR
    · exact zp35 hd hf h0 h1 h
    · exact zp35a hd hf h0 h1 h
  · obtain ⟨rfl, rfl, n, dp, dst, sp, src, rfl, h1, h2, h3, h4, h5, h6, h7, h8, rfl⟩ := hR
    exact zp36 hd hf h1 h2 h3 h4 h5 h6 h7 h8 h
  · obtain ⟨rfl, rfl, rfl, j, q, rfl, h1, h2, h3, rfl⟩ := hR
    exact zp37 hd hf h1 h2 h3 h
  · obtain ⟨rfl, rfl, rfl, j, k, q, rfl, h1, h2, h3, h4, h5, rfl⟩ := hR
    exact zp38 hd hf h1 h2 h3 h4 h5 h
  · cases hR
theorem z_mode (hS1 : S.1 = false) (hlay : zLay S.2.1 S.2.2.2) (h : zSnd l D κ ρ A g d μ pc ls st (true, S.2) r) : zSnd l D κ ρ A g d μ pc ls st S r := by
  refine ⟨h.1, fun p e R s m args below meth c C σ0 n0 σ H locs cells slots lsC hn0 hσ hP hD hS hI hl hst hce hsl => ?_⟩
  exact h.2 p e R s m args below meth c C σ0 n0 σ H locs cells slots lsC hn0 hσ hP hD hS ⟨hI.1, fun _ => hlay, hI.2.2.1, hI.2.2.2⟩ hl hst hce hsl
def zXs (l : Launch) (D : va_G) (κ : Nat → ClassId) (ρ : Nat → Nat) (A : Nat → Prop) (g : Int → Int) : zX := fun d μ pc ls st S Q => μ < 335 → ∃ r, Q r ∧ zSnd l D κ ρ A g d μ pc ls st S r
theorem zXs_closed (l : Launch) (D : va_G) (κ : Nat → ClassId) (ρ : Nat → Nat) (A : Nat → Prop) (g : Int → Int) : zClosed (zXs l D κ ρ A g) := by
  intro d μ pc ls st S Q hF hμ
  rcases hF with ⟨op, a, b, len, pc', ls', st', S', hc, hR, hX⟩ | ⟨a, b, len, hc, hr, hQ⟩ | ⟨a, b, len, hc, hn, hS1, hcat, hQ⟩ | ⟨a, b, len, d', as, rest, hc, rfl, rfl, hlen, hsa, h9, hrest, hrecv, hX⟩ | ⟨hS1, hlay, hX⟩
  · obtain ⟨r, hq, h⟩ := hX hμ
    exact ⟨r, hq, z_step hμ hc hR h⟩
  · obtain ⟨i, hd, hf⟩ := zDec hμ hc
    exact ⟨_, hQ, zp33 hd hf hr⟩
  · exact ⟨_, hQ, zp34 hμ hc hcat⟩
  · have hν : a.toNat < 335 := by
      obtain ⟨i, hd, hf⟩ := zDec hμ hc
      simp only [zFo, Bool.and_eq_true, beq_iff_eq] at hf
      obtain ⟨-, hf⟩ := hf
      split at hf
      · rename_i x
        simp only [Bool.and_eq_true] at hf
        exact (zMs_in (e := ((zMof μ).1, x, a.toNat)) (by simpa using hf.1.1.1)).2.2
      · rename_i x
        simp only [Bool.and_eq_true, Bool.or_eq_true] at hf
        rcases hf.1.1.1 with q | q
        · exact (zMs_in (e := ((zMof μ).1, x, a.toNat)) (by simpa using q)).2.2
        · exact (zMsN_in (e := ((zMof μ).1, x, a.toNat)) (by simpa using q)).2.2
      · rename_i x
        simp only [Bool.and_eq_true] at hf
        exact (zMs_in (e := ((zMof μ).1, x, a.toNat)) (by simpa using hf.1.1)).2.2
      · cases hf
    obtain ⟨r1, haft, h1⟩ := hX hν
    unfold zAft at haft
    cases hr1 : r1.1 with
    | inl vs =>
      rw [hr1] at haft
      dsimp only at haft
      obtain ⟨r, hq, h⟩ := haft hμ
      refine ⟨r, hq, zp32 hμ hc hlen hsa hrest hrecv h1 ?_⟩
      unfold zAfS
      rw [hr1]
      exact h
    | inr E =>
      rw [hr1] at haft
      dsimp only at haft
      cases hh : zHd μ pc E with
      | none =>
        rw [hh] at haft
        refine ⟨_, haft.2, zp32 hμ hc hlen hsa hrest hrecv h1 ?_⟩
        unfold zAfS
        rw [hr1]
        dsimp only
        rw [hh]
        exact ⟨haft.1, rfl⟩
      | some pk =>
        obtain ⟨p', kx⟩ := pk
        rw [hh] at haft
        dsimp only at haft
        obtain ⟨q1, q2, q3⟩ := haft
        obtain ⟨r, hq, h⟩ := q3 hμ
        refine ⟨r, hq, zp32 hμ hc hlen hsa hrest hrecv h1 ?_⟩
        unfold zAfS
        rw [hr1]
        dsimp only
        rw [hh]
        exact ⟨q1, q2, h⟩
  · obtain ⟨r, hq, h⟩ := hX hμ
    exact ⟨r, hq, z_mode hS1 hlay h⟩
theorem z_sound (l : Launch) (D : va_G) (κ : Nat → ClassId) (ρ : Nat → Nat) (A : Nat → Prop) (g : Int → Int) {d μ pc : Nat} {ls st : List zV} {S : zS} {Q : zO → Prop} (hμ : μ < 335) (h : zWp d μ pc ls st S Q) : ∃ r, Q r ∧ zSnd l D κ ρ A g d μ pc ls st S r :=
  zWp_least (X := zXs l D κ ρ A g) (fun _ _ _ _ _ _ _ _ hQ hX hμ => by obtain ⟨r, h1, h2⟩ := hX hμ; exact ⟨r, hQ r h1, h2⟩) (zXs_closed l D κ ρ A g) h hμ
end ZT
