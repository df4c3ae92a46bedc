/-! making rows of rows -/
section ZT
variable {l : Launch} {D : va_G} {κ : Nat → ClassId} {ρ : Nat → Nat} {A : Nat → Prop} {g : Int → Int} {d μ pc len : Nat} {a b : Int} {ls st : List zV} {S : zS} {r : zO} {i : Instr} {n cx : Nat} {h0 : zH}
theorem zSum_rows {n N' K' : Nat} (h1 : (zK (n + 1 : Nat)).2 = N') : ∀ m : Nat, (∀ i : Nat, i < m → (zK (n + 2 + i : Nat)).2 = K') → zSum (n + 1 + m) = zSum n + N' + m * K' := by
  intro m
  induction m with
  | zero =>
    intro _
    show zSum n + (zK (n + 1 : Nat)).2 = _
    rw [h1]
    omega
  | succ m ih =>
    intro h
    have e := ih (fun i hi => h i (by omega))
    show zSum (n + 1 + m) + (zK (n + 1 + m + 1 : Nat)).2 = _
    have := h m (by omega)
    rw [show n + 2 + m = n + 1 + m + 1 by omega] at this
    rw [e, this, Nat.succ_mul]
    omega
def zMs2 (σ : Nat → Nat) (n q : Nat) (r : Nat → Nat) : Nat → Nat := fun j => if j ≤ n then σ j else if j = n + 1 then q else r (j - (n + 2))
theorem hmu_old {h : zH} {n o : Nat} {N : Int} (ho : o ≤ n) (k : Int) : hmu h ((n : Int) + 1) N o k = h o k := by
  unfold hmu
  rw [if_neg (by omega), if_neg (by omega)]
theorem zp28 (hd : decode (zB μ) pc = .ok (i, len)) (hf : zFo (zMof μ).1 μ pc len 28 a b i = true) {k N : Int} (hk0 : 0 ≤ k) (hN0 : 0 ≤ N) (hz1 : zK ((n : Int) + 1) = (54, N.toNat)) (hz2 : ∀ j : Nat, j < N.toNat → zK ((n : Int) + 2 + j) = (50, k.toNat))
    (h : zSnd l D κ ρ A g d μ (pc + len) ls ((2, (n : Int) + 1) :: st) (false, n + 1 + N.toNat, cx, hmu h0 (n + 1) N) r) : zSnd l D κ ρ A g d μ pc ls ((0, k) :: (0, N) :: st) (false, n, cx, h0) r := by
  have hleS : zLe (false, n, cx, h0) (false, n + 1 + N.toNat, cx, hmu h0 (n + 1) N) := ⟨by show n ≤ n + 1 + N.toNat; omega, Nat.le_refl _⟩
  refine ⟨hleS.trans h.1, fun p e R s m args below meth c C σ0 n0 σ H locs cells slots lsC hn0 hσ hP hD hS hI hl hst hce hsl => ?_⟩
  obtain ⟨⟨hlt, hx, hb, hml, hown, hts⟩, ⟨hr, hlk, hnm, htb⟩, hK, hKn, hA, hfr, hlo⟩ := id C
  obtain ⟨hkr, hst⟩ := List.forall_mem_cons.mp hst
  obtain ⟨hNr, hst⟩ := List.forall_mem_cons.mp hst
  have hkr : zr32 k := hkr
  have hNr : zr32 N := hNr
  simp only [zFo, Bool.and_eq_true, beq_iff_eq, zIe_eq] at hf
  obtain ⟨⟨e1, e2⟩, e3⟩ := hf
  subst e1; subst e2
  obtain ⟨hw, -⟩ := zEs_in (e := (28, (zMof μ).1, b.toNat, 0)) (by simpa using e3)
  have z1 : (zK ((n : Int) + 1)).1 = 54 := congrArg Prod.fst hz1
  have z2 : (zK ((n : Int) + 1)).2 = N.toNat := congrArg Prod.snd hz1
  have hNle : N.toNat ≤ 100000 := by rw [← z2]; exact zLen_le _
  have hkle : N.toNat ≠ 0 → k.toNat ≤ 100000 := by
    intro q
    have := zLen_le ((n : Int) + 2 + (0 : Nat))
    rw [hz2 0 (by omega)] at this
    exact this
  have h156 : n + 1 + N.toNat ≤ 156 := by
    by_cases q : N.toNat = 0
    · have := zK_bound (r := (n : Int) + 1) (by rw [z1]; decide)
      omega
    · have := zK_bound (r := (n : Int) + 2 + ((N.toNat - 1 : Nat) : Int)) (by rw [hz2 _ (by omega)]; show (50 : Nat) ≠ 99; decide)
      omega
  have hsum : zSum (n + 1 + N.toNat) = zSum n + N.toNat + N.toNat * k.toNat := zSum_rows z2 N.toNat (fun j hj => by
    have := congrArg Prod.snd (hz2 j hj)
    rw [show ((n : Int) + 2 + j) = ((n + 2 + j : Nat) : Int) by omega] at this
    exact this)
  have c1 := zLe_cc h.1
  have c3 := zLe_sl h.1
  have ec1 : zCc (false, n + 1 + N.toNat, cx, hmu h0 (n + 1) N) = zCc (false, n, cx, h0) + 1 + N.toNat := by unfold zCc; dsimp only; omega
  have ec2 : zSl (false, n + 1 + N.toNat, cx, hmu h0 (n + 1) N) = zSl (false, n, cx, h0) + N.toNat + N.toNat * k.toNat := by
    unfold zSl
    dsimp only
    rw [hsum]
    omega
  have hI1 : zInv g (false, n + 1 + N.toNat, cx, hmu h0 (n + 1) N) := by
    refine ⟨fun o h1 h2 j => ?_, fun q => (by cases q), ?_, h156⟩
    · show zFits (n + 1 + N.toNat) _ j (hmu h0 (n + 1) N o j)
      have h2 : o ≤ n + 1 + N.toNat := h2
      rcases Nat.lt_or_ge o (n + 1) with q | q
      · rw [hmu_old (by omega)]
        exact zFits_mono (n := n) (by omega) (hI.1 o h1 (by show o ≤ n; omega) j)
      · by_cases q2 : o = n + 1
        · subst q2
          have zz : (zK ((n + 1 : Nat) : Int)).1 = 54 := z1
          rw [zz]
          unfold zFits
          rw [if_neg (by decide), if_neg (by decide), if_neg (by decide)]
          unfold hmu
          rw [if_pos (by omega)]
          split <;> omega
        · unfold hmu
          rw [if_neg (by omega), if_pos (by omega)]
          exact zFits_0 _ _ _
    · show hmu h0 (n + 1) N 0 = g
      have : hmu h0 (n + 1) N 0 = h0 0 := funext (fun j => hmu_old (n := n) (o := 0) (Nat.zero_le n) j)
      rw [this]
      exact hI.2.2.1
  have hcy : s.vm.findClass (FieldType.array .int).toString = some (κ 50) := (hK.2 0 _ rfl).2
  have hNne : N.toNat ≠ 0 := by
    have hb : zKL.all (fun e => !(e.1 == 54) || !(e.2 == 0)) = true := by decide +kernel
    rcases zK_cases ((n : Int) + 1) with q | q
    · rw [hz1] at q
      cases q
    · have := List.all_eq_true.mp hb _ q
      rw [hz1] at this
      simpa using this
  have hb2 : k.toNat * 4 ≤ 536870912 ∧ k.toNat ≤ 536870912 := by
    have := hkle hNne
    omega
  refine va_mna (X := zWs κ σ n h0) (L := []) (f := fun _ => .inl (κ 50, k.toNat, .inl (fun _ => 0))) (ty := .int) (n := Int32.ofInt N) (k := Int32.ofInt k) (N' := N.toNat) (K' := k.toNat) (z := (k.toNat, .inl (fun _ => 0))) hx hb hown (hts _ (zGd_in hw rfl)) hKn.2.1.2.2.1 (hts _ zwy50) hcy hK (by show va_P D vwCl (zWs κ σ n h0 ++ []) H; rw [List.append_nil]; exact hP) (by show va_D A (zWs κ σ n h0 ++ []); rw [List.append_nil]; exact hD) hS hA (znn hNr hN0) (znn hkr hk0) (zclamp hNr) (zclamp hkr) (by omega) hb2.1 hb2.2 rfl rfl (by omega) (by omega) (fun cI => arrV_new cI k.toNat (.int 0)) hd ?_
  intro q rr cA H1 hinj _ hK1 hP1 hD1 hS1
  have ecA : cA = κ 54 := Option.some.inj ((hK1.2 6 _ rfl).2.symm.trans (hK.2 4 _ rfl).2)
  subst ecA
  have hold : ∀ j, j ≤ n → zMs2 σ n q rr j = σ j := fun j hj => by unfold zMs2; rw [if_pos hj]
  have hnew : zMs2 σ n q rr (n + 1) = q := by unfold zMs2; rw [if_neg (by omega), if_pos rfl]
  have hrow : ∀ j, zMs2 σ n q rr (n + 2 + j) = rr j := fun j => by unfold zMs2; rw [if_neg (by omega), if_neg (by omega)]; congr 1; omega
  have hws : zWs κ (zMs2 σ n q rr) (n + 1 + N.toNat) (hmu h0 (n + 1) N) = (zWs κ σ n h0 ++ [(q, .inl (κ 54, N.toNat, .inr (.inr (.inr (.inr (fun i => if i < N.toNat then some (rr i) else none))))))]) ++ va_pl ([] ++ (List.range N.toNat).map rr) (vr_up (fun _ => .inl (κ 50, k.toNat, .inl (fun _ => 0))) ((List.range N.toNat).map rr) (.inl (κ 50, k.toNat, .inl (fun _ => 0)))) := by
    rw [show n + 1 + N.toNat = n + (1 + N.toNat) by omega, zWs_new (m := 1 + N.toNat) hI.1 hold (fun o' _ h2 j => hmu_old h2 j), List.append_assoc]
    congr 1
    rw [List.range_add, List.map_append, List.map_map]
    congr 1
    · show [(zMs2 σ n q rr (n + 1 + 0), zEn κ (zMs2 σ n q rr) (hmu h0 (n + 1) N) (n + 1 + 0))] = _
      rw [Nat.add_zero, hnew]
      have he := zEn_ref (κ := κ) (σ := zMs2 σ n q rr) (h := hmu h0 (n + 1) N) (o := (n : Int) + 1) (by omega) z1 (by decide)
      rw [show ((n : Int) + 1).toNat = n + 1 by omega, z2] at he
      rw [he]
      have e : (fun i : Nat => zOpt (zMs2 σ n q rr) (hmu h0 (n + 1) N ((n : Int) + 1) i)) = (fun i : Nat => if i < N.toNat then some (rr i) else none) := by
        funext j
        unfold hmu
        rw [if_pos rfl]
        by_cases t : j < N.toNat
        · rw [if_pos (by omega), if_pos t]
          unfold zOpt
          rw [if_neg (by omega), show ((n : Int) + 1 + 1 + j).toNat = n + 2 + j by omega, hrow]
        · rw [if_neg (by omega), if_neg t]
          unfold zOpt
          rw [if_pos rfl]
      rw [e]
    · rw [List.nil_append]
      show _ = ((List.range N.toNat).map rr).map (fun x => (x, vr_up _ _ _ x))
      rw [List.map_map]
      apply List.map_congr_left
      intro j hj
      have hj := List.mem_range.mp hj
      show (zMs2 σ n q rr (n + 1 + (1 + j)), zEn κ (zMs2 σ n q rr) (hmu h0 (n + 1) N) (n + 1 + (1 + j))) = (rr j, vr_up _ _ _ (rr j))
      rw [vr_up_in (List.mem_map.mpr ⟨j, List.mem_range.mpr hj, rfl⟩), show n + 1 + (1 + j) = n + 2 + j by omega, hrow]
      have he := zEn_int (κ := κ) (σ := zMs2 σ n q rr) (h := hmu h0 (n + 1) N) (o := (n : Int) + 2 + j) (by omega) (ci := 50) (congrArg Prod.fst (hz2 j hj)) (by decide) (by decide)
      rw [show ((n : Int) + 2 + j).toNat = n + 2 + j by omega, show (zK ((n : Int) + 2 + j)).2 = k.toNat from congrArg Prod.snd (hz2 j hj)] at he
      rw [he]
      have e : (fun i : Nat => Int32.ofInt (hmu h0 (n + 1) N ((n : Int) + 2 + j) i)) = (fun _ => 0) := by
        funext x
        unfold hmu
        rw [if_neg (by omega), if_pos (by omega)]
        rfl
      rw [e]
  rw [← hws] at hP1 hD1
  have kk := h.2 p e R s m args below meth c C σ0 n0 (zMs2 σ n q rr) H1 locs (cells + 1 + N.toNat) (slots + N.toNat + N.toNat * k.toNat) lsC (Nat.le_trans hn0 hleS.1) (fun j hj => (hold j (Nat.le_trans hj hn0)).trans (hσ j hj)) hP1 hD1 hS1 hI1 (zLs_ext hold hleS.1 hl) (z_cons (v := (2, (n : Int) + 1)) (show 1 ≤ (n : Int) + 1 ∧ (n : Int) + 1 ≤ ((n + 1 + N.toNat : Nat) : Int) by omega) (fun v hv => zOk_mono hleS.1 (hst v hv))) (by omega) (by omega)
  rw [List.map_cons, z_map_ext hold hst] at kk
  have e5 : zc (zMs2 σ n q rr) ρ (2, (n : Int) + 1) = .ref q := by
    show Value.ref (zMs2 σ n q rr ((n : Int) + 1).toNat) = _
    rw [show ((n : Int) + 1).toNat = n + 1 by omega, hnew]
  rw [e5] at kk
  exact kk
end ZT
