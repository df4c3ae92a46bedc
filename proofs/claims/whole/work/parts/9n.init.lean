/-! what the making has made: the first state of both sides -/
theorem mH_len : mH15.length = 156 := by decide +kernel
theorem iC {B : zH} {o k v : Int} (h1 : 1 ≤ o ∧ o ≤ 156) (h2 : 0 ≤ k) (e : cel mH15 o k = v) : den B mH15 o k = v := by
  rw [den_cel (by rw [mH_len]; omega) h2, e]
theorem iA {B : zH} {o v : Int} {n : Nat} (h1 : 1 ≤ o ∧ o ≤ 156) (e : (List.range n).all (fun k => cel mH15 o (k : Nat) == v) = true) : ∀ k : Int, 0 ≤ k → k < n → den B mH15 o k = v := by
  intro k a b
  have t : (cel mH15 o ((k.toNat : Nat) : Int) == v) = true := List.all_eq_true.mp e k.toNat (List.mem_range.mpr (by omega))
  rw [show ((k.toNat : Nat) : Int) = k by omega] at t
  exact iC h1 a (eq_of_beq t)
theorem iV {x k : Int} {P : Prop} (e : x = 0) (a : 0 ≤ k) (b : k < x) : P := False.elim (by omega)
def r0 : zH := rEnd (fun _ => 0) q00
theorem r0_00 : r0 0 0 = 0 := by decide +kernel
theorem r0_01 : r0 0 1 = 0 := by decide +kernel
theorem r0_02 : r0 0 2 = 0 := by decide +kernel
theorem r0_03 : r0 0 3 = 0 := by decide +kernel
theorem r0_04 : r0 0 4 = 0 := by decide +kernel
theorem r0_7 (k : Int) : r0 7 k = 3 := by simp [r0, rEnd, q00]
theorem r0_14 (k : Int) : r0 14 k = 0 := by simp [r0, rEnd, q00]
theorem r0_s (n : Nat) : mSum (r0 14) n = 0 := (mSum_ext (Nat.zero_le n) (fun k _ _ => r0_14 k)).trans rfl
set_option maxRecDepth 10000 in
theorem i_cRoad {B : zH} : cRoad 30 (den B mH15) r0 :=
  ⟨iC (by decide) (by decide) (by decide +kernel), iC (by decide) (by decide) (by decide +kernel), iC (by decide) (by decide) (by decide +kernel), iC (by decide) (by decide) (by decide +kernel), iC (by decide) (by decide) (by decide +kernel),
   iC (by decide) (by decide) (by decide +kernel), iC (by decide) (by decide) (by decide +kernel), iC (by decide) (by decide) (by decide +kernel), iC (by decide) (by decide) (by decide +kernel), iC (by decide) (by decide) (by decide +kernel),
   fun k a b => iV r0_00 a b, fun k a b => iV r0_01 a b, fun k a b => by rw [r0_7]; exact iA (n := 60) (by decide) (by decide +kernel) k a (by omega), fun k a b => iV r0_02 a b, fun k a b => iV r0_03 a b, fun k a b => iV r0_04 a b,
   fun k a b => by rw [r0_s]; exact iA (n := 242) (by decide) (by decide +kernel) k a (by omega)⟩
set_option maxRecDepth 10000 in
theorem i_mRoad {B : zH} : mRoad (den B mH15) r0 :=
  ⟨iC (by decide) (by decide) (by decide +kernel), iC (by decide) (by decide) (by decide +kernel), iC (by decide) (by decide) (by decide +kernel), iC (by decide) (by decide) (by decide +kernel), iC (by decide) (by decide) (by decide +kernel),
   ⟨iC (by decide) (by decide) (by decide +kernel), iC (by decide) (by decide) (by decide +kernel), iC (by decide) (by decide) (by decide +kernel), iC (by decide) (by decide) (by decide +kernel), iC (by decide) (by decide) (by decide +kernel)⟩,
   fun k a b => iV r0_00 a b, fun k a b => iV r0_01 a b, fun k a b => by rw [r0_7]; exact iA (n := 60) (by decide) (by decide +kernel) k a (by omega), fun k a b => iV r0_02 a b, fun k a b => iV r0_03 a b, fun k a b => iV r0_04 a b,
   fun k a b => by rw [r0_14]; exact iA (n := 241) (by decide) (by decide +kernel) k a (by omega)⟩
theorem i_gW : gW r0 (fun _ => 1000) 1 [] [] [] (fun _ => 0) 0 := ⟨⟨rEnd_w q00_w, wLaw1, wPlan0 _⟩, ⟨by decide, trivial⟩, by decide, by decide, fun k x y => by omega⟩
set_option maxRecDepth 10000 in
theorem i_gCl {B : zH} : gCl (den B mH15) 30 50 70 74 78 84 90 92 r0 (fun _ => 1000) 1 [] (fun _ => -1) 0 [] [] (fun _ => 0) 0 :=
  ⟨⟨⟨iC (by decide) (by decide) (by decide +kernel), iC (by decide) (by decide) (by decide +kernel), iC (by decide) (by decide) (by decide +kernel), iC (by decide) (by decide) (by decide +kernel), iC (by decide) (by decide) (by decide +kernel), iC (by decide) (by decide) (by decide +kernel), iC (by decide) (by decide) (by decide +kernel), iC (by decide) (by decide) (by decide +kernel)⟩, Or.inl ⟨rfl, rfl⟩, Or.inl ⟨rfl, rfl⟩, Or.inl ⟨rfl, rfl⟩, Or.inl ⟨rfl, rfl⟩⟩,
   i_cRoad,
   ⟨iC (by decide) (by decide) (by decide +kernel), fun k a b => iA (n := 1) (v := 1000) (by decide) (by decide +kernel) k a (by omega)⟩,
   ⟨iC (by decide) (by decide) (by decide +kernel), fun k a b => iV rfl a b⟩,
   ⟨iC (by decide) (by decide) (by decide +kernel), fun k a b => iA (n := 3) (v := -1) (by decide) (by decide +kernel) k a (by omega)⟩,
   ⟨iC (by decide) (by decide) (by decide +kernel), trivial⟩, ⟨iC (by decide) (by decide) (by decide +kernel), trivial⟩,
   ⟨iC (by decide) (by decide) (by decide +kernel), fun k a b => iV rfl a b⟩,
   ⟨fun k a b => iA (n := 4) (by decide) (by decide +kernel) k a (by omega), iC (by decide) (by decide) (by decide +kernel), iC (by decide) (by decide) (by decide +kernel)⟩,
   fun e => absurd (iC (B := B) (v := 0) (by decide) (by decide) (by decide +kernel)) e⟩
set_option maxRecDepth 10000 in
theorem i_gMl {B : zH} : gMl (den B mH15) r0 (fun _ => 1000) 1 [] (fun _ => -1) 0 [] [] (fun _ => 0) 0 :=
  ⟨i_mRoad, Or.inl ⟨iC (by decide) (by decide) (by decide +kernel), rfl, rfl⟩,
   ⟨iC (by decide) (by decide) (by decide +kernel), fun k a b => iV rfl a b⟩,
   ⟨iC (by decide) (by decide) (by decide +kernel), fun k a b => iA (n := 3) (v := -1) (by decide) (by decide +kernel) k a (by omega)⟩,
   ⟨iC (by decide) (by decide) (by decide +kernel), trivial⟩, ⟨iC (by decide) (by decide) (by decide +kernel), trivial⟩,
   ⟨iC (by decide) (by decide) (by decide +kernel), fun k a b => iV rfl a b⟩,
   fun k a b => iA (n := 12) (by decide) (by decide +kernel) k a (by omega), Or.inl (iC (by decide) (by decide) (by decide +kernel))⟩
set_option maxRecDepth 10000 in
theorem i_gX {B : zH} : gX (den B mH15) :=
  ⟨(iC (v := -1) (by decide) (by decide) (by decide +kernel)).trans (iC (v := -1) (by decide) (by decide) (by decide +kernel)).symm, (iC (v := 0) (by decide) (by decide) (by decide +kernel)).trans (iC (v := 0) (by decide) (by decide) (by decide +kernel)).symm, (iC (v := 0) (by decide) (by decide) (by decide +kernel)).trans (iC (v := 0) (by decide) (by decide) (by decide +kernel)).symm, (iC (v := 0) (by decide) (by decide) (by decide +kernel)).trans (iC (v := 0) (by decide) (by decide) (by decide +kernel)).symm⟩
theorem g_init {B : zH} : gI (den B mH15) := ⟨30, 50, 70, 74, 78, 84, 90, 92, r0, fun _ => 1000, 1, [], fun _ => -1, 0, [], [], fun _ => 0, 0, i_gW, i_gCl, i_gMl, i_gX⟩
/-! all final fields hold what they will -/
theorem far_getD {α : Type} {L : List (List α)} {ci k : Nat} {d : α} (hL : L.all (fun l => decide (l.length ≤ 80)) = true) (hk : 80 ≤ k) : (L.getD ci []).getD k d = d := by
  have q : (L.getD ci []).length ≤ 80 := by
    rw [List.getD_eq_getElem?_getD]
    cases e : L[ci]? with
    | none => exact Nat.zero_le _
    | some l => exact of_decide_eq_true (List.all_eq_true.mp hL l (List.mem_of_getElem? e))
  rw [List.getD_eq_getElem?_getD, List.getElem?_eq_none (by omega)]
  rfl
def layA (o : Nat) : Bool := if (zK (o : Int)).1 < 50 then (List.range 80).all (fun k => (zCs (zK (o : Int)).1 k == 0 || cel mH15 o k == (o : Int) + zCs (zK (o : Int)).1 k) && (!(zTy (zK (o : Int)).1 k == 2) || !(cel mH15 o k == 0))) else true
def layB (o : Nat) : Bool := if (zK (o : Int)).1 = 54 ∨ (zK (o : Int)).1 = 55 then (List.range (zK (o : Int)).2).all (fun i => cel mH15 o i == (o : Int) + 1 + zStr1 (zK (o : Int)).1 * i) else true
set_option maxRecDepth 100000 in
theorem lay_A1 : (List.range' 1 112).all layA = true := by decide +kernel
set_option maxRecDepth 100000 in
theorem lay_A2 : (List.range' 113 44).all layA = true := by decide +kernel
set_option maxRecDepth 100000 in
theorem lay_B : (List.range' 1 156).all layB = true := by decide +kernel
theorem lay_c : zCsL.all (fun l => decide (l.length ≤ 80)) = true := by decide +kernel
theorem lay_t : zTyL.all (fun l => decide (l.length ≤ 80)) = true := by decide +kernel
theorem i_lay {B : zH} : zLay 156 (den B mH15) := by
  intro o h1 h2
  have hd : ∀ k : Nat, den B mH15 (o : Int) (k : Int) = cel mH15 o k := fun k => den_cel (by rw [mH_len]; omega) (by omega)
  refine ⟨fun hc k => ?_, fun hc i hi => ?_⟩
  · have hA : layA o = true := by
      by_cases q : o < 113
      · exact List.all_eq_true.mp lay_A1 o (List.mem_range'_1.mpr ⟨h1, by omega⟩)
      · exact List.all_eq_true.mp lay_A2 o (List.mem_range'_1.mpr ⟨by omega, by omega⟩)
    unfold layA at hA
    rw [if_pos hc] at hA
    by_cases hk : k < 80
    · have t := List.all_eq_true.mp hA k (List.mem_range.mpr hk)
      rw [Bool.and_eq_true, Bool.or_eq_true, Bool.or_eq_true, beq_iff_eq, beq_iff_eq] at t
      rw [hd]
      refine ⟨fun n => t.1.resolve_left n, fun e z => ?_⟩
      rcases t.2 with t2 | t2
      · rw [e] at t2
        exact absurd t2 (by decide)
      · rw [z] at t2
        exact absurd t2 (by decide)
    · refine ⟨fun n => absurd (far_getD (d := 0) lay_c (by omega)) n, fun e => ?_⟩
      have : zTy (zK (o : Int)).1 k = 9 := far_getD (d := 9) lay_t (by omega)
      rw [this] at e
      cases e
  · have hB : layB o = true := List.all_eq_true.mp lay_B o (List.mem_range'_1.mpr ⟨h1, by omega⟩)
    unfold layB at hB
    rw [if_pos hc] at hB
    have t := List.all_eq_true.mp hB i (List.mem_range.mpr hi)
    rw [beq_iff_eq] at t
    rw [hd]
    exact t
theorem mk_all {B : zH} {c : Nat} {Q : zO → Prop} (w : yW B c Q mC15) : yW B c Q mC0 := yRun_ok (yIs_ok mS0) (yRun_ok (yIs_ok mS1) (yRun_ok (yIs_ok mS2) (yRun_ok (yIs_ok mS3) (yRun_ok (yIs_ok mS4) (yRun_ok (yIs_ok mS5) (yRun_ok (yIs_ok mS6) (yRun_ok (yIs_ok mS7) (yRun_ok (yIs_ok mS8) (yRun_ok (yIs_ok mS9) (yRun_ok (yIs_ok mS10) (yRun_ok (yIs_ok mS11) (yRun_ok (yIs_ok mS12) (yRun_ok (yIs_ok mS13) (yRun_ok (yIs_ok mS14) (w)))))))))))))))
theorem den_nil {B : zH} : den B [] = B := by
  funext o k
  unfold den
  rw [if_neg (by
    intro q
    have q2 : o ≤ 0 := q.2
    omega)]
theorem den_0 {B : zH} {H : xHp} {k : Int} : den B H 0 k = B 0 k := by
  unfold den
  rw [if_neg (by omega)]
/-- the law on every script: it answers 1, and throws 1026 times at most -/
theorem law_all {B : zH} {n : Int} (h0 : 0 ≤ n) (h1 : n ≤ 3584) (e : B 0 (-1) = n) : zWp 60 0 0 [(4, 0), (9, 0), (9, 0), (9, 0), (9, 0), (9, 0), (9, 0), (9, 0)] [] (false, 0, 0, B) (fun r => ∃ c h, r = (.inl [(0, 1)], zTS c h) ∧ c ≤ 1026) := by
  have k : lpZ 0 23 0 0 (den B mH15) (fun y c _ => y = 1 ∧ c ≤ 1026) (fun _ _ _ => False) := l_loop (C := 1026) (n := n) (by omega) (fun c h q => ⟨rfl, q⟩) 513 0 0 _ (by omega) (by omega) (by omega) g_init (by rw [den_0]; exact e) h0
  have k2 : yW B 0 (fun r => ∃ c h, r = (.inl [(0, 1)], zTS c h) ∧ c ≤ 1026) mC15 := by
    refine zWp_closed _ _ _ _ _ _ _ (Or.inr (Or.inr (Or.inr (Or.inr ⟨rfl, ?_, ?_⟩))))
    · show zLay mH15.length (den B mH15)
      rw [mH_len]
      exact i_lay
    · show zWp 60 0 23 _ [] (true, mH15.length, 0, den B mH15) _
      rw [mH_len]
      refine zWp_mono _ _ _ _ _ _ _ _ (fun r q => ?_) k
      rcases q with ⟨y, c, h, e, q1, q2⟩ | ⟨E, c, h, e, q⟩
      · subst q1
        exact ⟨c, h, e, q2⟩
      · exact False.elim q
  have k3 := mk_all k2
  have k4 : zWp 60 0 0 [(4, 0), (9, 0), (9, 0), (9, 0), (9, 0), (9, 0), (9, 0), (9, 0)] [] (false, 0, 0, den B []) (fun r => ∃ c h, r = (.inl [(0, 1)], zTS c h) ∧ c ≤ 1026) := k3
  rw [den_nil] at k4
  exact k4
