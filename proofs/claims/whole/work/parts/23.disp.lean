/-! the three kinds of calls -/
section ZI
variable {p : Program} {l : Launch} {e : Env} {R : Room} {s : State} {m : MethodId} {args : Array Value} {below : List Frame} {meth : Method} {c : Code} {H : Heap} {locs : List Loc} {cells slots : Nat}
variable {y : MethodName} {bytes cc : ByteArray} {maxL nL mc ms index : Nat} {ws : List Cond} {rm : Room} {Pc : Array Value → State → Prop} {Qc : Array Value → State → Outcome → State → Prop} {XC : String → State → State → Prop} {free : Addr → Prop} {Ts : List Cond} {own : String} {b : Addr} {As rest : List Value} {g : JFrame}
/-- a constructor's call, by its own class' name or by a nest mate's -/
theorem z_runI (hx : p.tables.exec = Jvm.exec) (hb : c.code = cc) (hml : c.maxLocals = nL) (hown : s.vm.findClass own = some m.cls) (hK : vx_Back l R p e below s args y 3 8 (PreOf R mc ms Pc) (PostOf Qc mc ms free) (vx_Post XC mc ms free))
    (hlink : (Cond.methodLink own index y).before args s = true ∨ ∃ host, (Cond.methodLinkNest own index y host).before args s = true) (hin : (Cond.instanceMethod y).before args s = true) (hcode : (Cond.code y bytes maxL none).before args s = true) (hy1 : y.name = "<init>") (hy : y.cls ≠ "java/lang/invoke/MethodHandle" ∧ y.cls ≠ "java/lang/invoke/VarHandle")
    (hlen : ∀ sig, parseMethodDescriptor y.desc = some sig → As.length = sig.parameters.length) (hPc : ∀ U : State, U.heap = H → s.WarmedH U.vm → Pc (Value.ref b :: As).toArray U)
    (hg : g.method = m) (hsize : g.locals.size = nL) (hstack : g.stack = As.reverse ++ .ref b :: rest) (hW : 2 * g.monitorRoom + (rest.map fun v => v.category).sum ≤ 8) (hdg : decode cc g.pc = .ok (.invokespecial index, 3)) (hf : cells + mc ≤ R.cells ∧ slots + ms ≤ R.slots) :
    vx_Run p l e R s m args below meth c H locs cells slots mc ms g rest (Qc (Value.ref b :: As).toArray) XC free := by
  subst hg
  intro T hT X
  have hpl : e.platform.magicAccessors = ({} : Platform).magicAccessors := by rw [X.admits.platform]
  have hdg' : decode c.code g.pc = .ok (.invokespecial index, 3) := by rw [hb]; exact hdg
  have fin : ∀ (mk : MethodId) (vm₁ : Vm), s.methodNamed? y = some mk → s.WarmedH vm₁ → (∀ tg, (∀ acts, Steps p.tables e below (doInvoke e ((T.setVm vm₁).setTop { g with stack := rest }) acts mk (Value.ref b :: As).toArray).1 tg) → Steps p.tables e below (T.setTop g) tg) →
      (∃ (v : Option Value) (st₀ t T' : State) (L : List Loc), st₀.heap = H ∧ Stand p l e R s g.method args below meth c T' (locs ++ L) (cells + mc) (slots + ms) ∧ (∀ q ∈ L, free q.base) ∧ T'.heap = t.heap ∧ T'.vm = t.vm ∧ Qc (Value.ref b :: As).toArray st₀ (.returned v) t ∧ Goes p e below T g T' { g with pc := g.pc + 3, stack := v.toList ++ rest }) ∨
      (∃ (q : Addr) (st₀ t T' : State) (L : List Loc) (E : String) (ce : Cell), st₀.heap = H ∧ Stand p l e R s g.method args below meth c T' (locs ++ L) (cells + mc) (slots + ms) ∧ (∀ z ∈ L, free z.base) ∧ T'.heap = t.heap ∧ T'.vm = t.vm ∧ XC E st₀ t ∧ t.heap[q]? = some ce ∧ ce.vm = .none ∧ s.vm.findClass E = some ce.cls ∧ Steps p.tables e below (T.setTop g) ((T'.setTop { g with stack := rest }).pushFrame (.throwing q))) := by
    intro mk vm₁ hnamed hW₁ hstep
    have X₁ := X.noted hW₁
    rcases hK g.method meth c ⟨T.setVm vm₁, locs, cells, slots⟩ { g with stack := rest } (.invokespecial index) mk (Value.ref b :: As).toArray X₁ rfl (hsize.trans hml.symm) hdg' hW (X₁.named hnamed) ⟨hf.1, hf.2, hPc (T.setVm vm₁) hT hW₁⟩ with ⟨v, ⟨U', l2, c2, s2⟩, X', ⟨g', mk', t, L, e1, e2, hq, h1, hL, h2, h3⟩, st⟩ | ⟨q, ⟨U', l2, c2, s2⟩, X', ⟨g', mk', t, L, E, ce, e1, e2, hq, hce, hcv, hcl, h1, hL, h2, h3⟩, st⟩
    · dsimp only [Pt.U, Pt.locs, Pt.cells, Pt.slots] at X' e1 e2 h1 h2 h3 st
      subst h1; subst h2; subst h3
      exact Or.inl ⟨v, (T.setVm vm₁).calling g' mk' (Value.ref b :: As).toArray, t, U', L, hT, X', hL, e1, e2, hq, fun tg h => hstep tg fun acts => by rw [doInvoke_state]; exact st.trans h⟩
    · dsimp only [Pt.U, Pt.locs, Pt.cells, Pt.slots] at X' e1 e2 h1 h2 h3 st hcl
      subst h1; subst h2; subst h3
      exact Or.inr ⟨q, (T.setVm vm₁).calling g' mk' (Value.ref b :: As).toArray, t, U', L, E, ce, hT, X', hL, e1, e2, hq, hce, hcv, vx_cls hW₁ hcl, hstep _ fun acts => by rw [doInvoke_state]; exact st⟩
  rcases hlink with hlink | ⟨host, hlink⟩
  · obtain ⟨mk, methM, cM, kP, vm₁, hnamed, -, -, -, -, -, -, -, hW₁, hstep⟩ := Steps.initColdArgs (e := e) X.here hx X.warmed hpl hown hy1 hy hlink hin hcode (f := g) rfl hlen hstack hdg'
    exact fin mk vm₁ hnamed hW₁ hstep
  · obtain ⟨mk, methM, cM, kP, vm₁, hnamed, -, -, -, -, -, -, -, hW₁, hstep⟩ := Steps.initColdArgsNest (e := e) X.here hx X.warmed hpl hown hy1 hy hlink hin hcode (f := g) rfl hlen hstack hdg'
    exact fin mk vm₁ hnamed hW₁ hstep
end ZI
theorem zOwn_cls : ∀ ci, ci < 11 → zOwnL.getD ci "" = (zT3 ci).1 := by
  intro ci h
  have : ci = 0 ∨ ci = 1 ∨ ci = 2 ∨ ci = 3 ∨ ci = 4 ∨ ci = 5 ∨ ci = 6 ∨ ci = 7 ∨ ci = 8 ∨ ci = 9 ∨ ci = 10 := by omega
  rcases this with rfl | rfl | rfl | rfl | rfl | rfl | rfl | rfl | rfl | rfl | rfl <;> rfl
def zMtC (ν : Nat) : Bool := ((zMof ν).2.2.2.1 || (!(zMof ν).2.2.2.2.2 && decide ((zMof ν).1 < 50))) && (!((zY ν).name == "<init>") || decide ((zMof ν).2.2.2.2.1 = 0))
set_option maxRecDepth 100000 in
theorem zMt_chk1 : (List.range' 0 120).all zMtC = true := by decide +kernel
set_option maxRecDepth 100000 in
theorem zMt_chk2 : (List.range' 120 110).all zMtC = true := by decide +kernel
set_option maxRecDepth 100000 in
theorem zMt_chk3 : (List.range' 230 105).all zMtC = true := by decide +kernel
theorem zMt {ν : Nat} (h : ν < 335) : zMtC ν = true := by
  rcases Nat.lt_or_ge ν 120 with q | q
  · exact List.all_eq_true.mp zMt_chk1 ν (List.mem_range'_1.mpr ⟨by omega, by omega⟩)
  · rcases Nat.lt_or_ge ν 230 with q2 | q2
    · exact List.all_eq_true.mp zMt_chk2 ν (List.mem_range'_1.mpr ⟨by omega, by omega⟩)
    · exact List.all_eq_true.mp zMt_chk3 ν (List.mem_range'_1.mpr ⟨by omega, by omega⟩)
theorem zNoH (ν : Nat) (h : ν < 335) (hs : (zMof ν).2.2.2.1 = false) : (zMof ν).2.2.2.2.2 = false := by
  have := zMt h
  unfold zMtC at this
  rw [hs] at this
  simp only [Bool.false_or, Bool.and_eq_true, Bool.not_eq_true'] at this
  exact this.1.1
theorem zObj (ν : Nat) (h : ν < 335) (hs : (zMof ν).2.2.2.1 = false) : (zMof ν).1 < 50 := by
  have := zMt h
  unfold zMtC at this
  rw [hs] at this
  simp only [Bool.false_or, Bool.and_eq_true, Bool.not_eq_true', decide_eq_true_eq] at this
  exact this.1.2
theorem zRtI (ν : Nat) (h : ν < 335) (hs : (zY ν).name = "<init>") : zRt ν = none := by
  have := zMt h
  unfold zMtC at this
  rw [hs] at this
  simp at this
  unfold zRt
  rw [this.2]
  rfl
section ZC
variable {l : Launch} {D : va_G} {κ : Nat → ClassId} {ρ : Nat → Nat} {A : Nat → Prop} {g : Int → Int} {d μ ν pc len : Nat} {a b : Int} {ls st as rest : List zV} {S : zS} {r r1 : zO}
theorem zPc_blind {σ : Nat → Nat} : FrameBlind (zPc D κ ρ A g σ as S) := by
  intro av U f mk h
  obtain ⟨e, ⟨h1, h2, h3, h4⟩, h5, h6⟩ := h
  exact ⟨e, ⟨h1, va_K.moved (u := U) (U := U.calling f mk av) (Vm.Alike.refl U.vm) h2, h3, h4⟩, zKn.move (U := U.calling f mk av) h5 (State.WarmedH.refl U) (fun _ _ _ => rfl), h6⟩
theorem zp32 (hμ : μ < 335) (hzc : zC μ pc = some (32, a, b, len)) (hlen : as.length = (zMof a.toNat).2.1) (hsa : (zArgs as).length ≤ (zMof a.toNat).2.2.1) (hrest : (rest.map zcat).sum ≤ 8) (hrecv : zRecv S a.toNat as)
    (h1 : zSnd l D κ ρ A g d a.toNat 0 (zEntry a.toNat as) [] S r1) (haft : zAfS l D κ ρ A g (d + 1) μ pc ls rest r1 r) : zSnd l D κ ρ A g (d + 1) μ pc ls (as.reverse ++ rest) S r := by
  have hle2 := zAfS_le haft
  refine ⟨h1.1.trans hle2, fun p e R s m args below meth c C σ0 n0 σ H locs cells slots lsC hn0 hσ hP hD hS hI hl hst hce hsl => ?_⟩
  obtain ⟨⟨hlt, hx, hb, hml, hown, hts⟩, ⟨hr1, hlk, hnm, htb⟩, hK, hKn, hA, hfr, hlo⟩ := id C
  have c1 := zLe_cc h1.1
  have c2 := zLe_cc hle2
  have c3 := zLe_sl h1.1
  have c4 := zLe_sl hle2
  have hoka : ∀ v ∈ as, zOk S.2.1 v := fun v hv => hst v (List.mem_append_left _ (List.mem_reverse.mpr hv))
  have hokr : ∀ v ∈ rest, zOk S.2.1 v := fun v hv => hst v (List.mem_append_right _ hv)
  obtain ⟨i, hd, hf⟩ := zDec hμ hzc
  simp only [zFo, Bool.and_eq_true, beq_iff_eq] at hf
  obtain ⟨e3, hf⟩ := hf
  subst e3
  have hW8 : ∀ s0, 2 * (F0 m pc lsC s0).monitorRoom + ((rest.map (zc σ ρ)).map fun v => v.category).sum ≤ 8 := fun s0 => lv_room (by rw [z_catsum]; exact hrest)
  have hcells : cells + (zCc r1.2 - zCc S) ≤ R.cells ∧ slots + (zSl r1.2 - zSl S) ≤ R.slots := ⟨by omega, by omega⟩
  generalize hν : a.toNat = ν at *
  have main : 0 < ν → ν < 335 → (∀ aC, vx_Run p l e R s m args below meth c H locs cells slots (zCc r1.2 - zCc S) (zSl r1.2 - zSl S) (F0 m pc lsC ((as.reverse ++ rest).map (zc σ ρ))) (rest.map (zc σ ρ)) (zQc D κ ρ A g σ S.2.1 r1 aC) (zXc D κ A g σ S.2.1 r1) A) →
      W p l e R s m args below meth c H locs cells slots (vx_MQ below (zQc D κ ρ A g σ0 n0 r) (zXc D κ A g σ0 n0 r) args s R.cells R.slots A) (F0 m pc lsC ((as.reverse ++ rest).map (zc σ ρ))) :=
    fun _ _ hrun => z_run hμ (hrun #[]) C h1.1 hn0 hσ hS hl hokr hce hsl haft
  have facts : 0 < ν → ν < 335 → ∀ w ∈ zHw ν :: zGd, ∀ (a' : Array Value) (U : State), s.WarmedH U.vm → w.before a' U = true := by
    intro h0 h335 w hw a' U hW
    have hwg : w ∈ zGd := by
      rcases List.mem_cons.mp hw with q | q
      · rw [q]; exact zHw_in h0 h335
      · exact q
    exact word_at hW (good_of_word (List.mem_filter.mp hwg).2) (hts w hwg)
  have hpre : ∀ U : State, U.heap = H → s.WarmedH U.vm → zPc D κ ρ A g σ as S (as.map (zc σ ρ)).toArray U := by
    intro U hU hW
    refine ⟨rfl, ⟨by rw [hU]; exact hP, va_K.moved hW.alike hK, hD, hI⟩, hKn.move hW (fun q q1 q2 => by rw [hU]; exact hS.2.1 q q1 q2), fun q hq => hA q ?_⟩
    rw [hU] at hq
    exact Nat.le_trans hS.1 hq
  have words : 0 < ν → ν < 335 → (zMof ν).2.2.1 ≤ 40 ∧ Cond.initialized (zY ν).cls ∈ zGd ∧ ((zY ν).cls ≠ "java/lang/invoke/MethodHandle" ∧ (zY ν).cls ≠ "java/lang/invoke/VarHandle") ∧ (∀ sig, parseMethodDescriptor (zY ν).desc = some sig → (zMof ν).2.1 = sig.parameters.length + (if (zMof ν).2.2.2.1 = true then 0 else 1)) := by
    intro h0 h335
    obtain ⟨-, -, w3, w4, -⟩ := zMw_all ν h0 h335
    have hmd := zMd_all h0 h335
    unfold zMd at hmd
    simp only [Bool.and_eq_true, decide_eq_true_eq] at hmd
    refine ⟨w4, zGd_in w3 rfl, hmd.2, fun sig hs => ?_⟩
    have := hmd.1.1
    rw [hs] at this
    simpa using this.symm
  split at hf
  · rename_i x
    simp only [Bool.and_eq_true, Bool.not_eq_true', beq_iff_eq] at hf
    obtain ⟨⟨⟨hms, hstat⟩, hni⟩, -⟩ := hf
    obtain ⟨hw, h0, h335⟩ := zMs_in (e := ((zMof μ).1, x, ν)) (by simpa using hms)
    dsimp only at hw h0 h335
    obtain ⟨w1, w2, w3, w4⟩ := words h0 h335
    obtain ⟨wc, wi, -⟩ := zMw_all ν h0 h335
    rcases wi with ⟨q, -⟩ | ⟨-, wi, wsel⟩
    · rw [hstat] at q; cases q
    have wsel : Cond.selects (zOwn ν) (zY ν) (zY ν) ∈ lw_tbl := by
      rcases wsel with q | q
      · rw [q] at hni; exact absurd hni (by decide)
      · exact q
    have hnh : (zMof ν).2.2.2.2.2 = false := zNoH _ h335 hstat
    have wc : Cond.code (zY ν) (zB ν) (zMof ν).2.2.1 (zRt ν) ∈ lw_tbl := by
      rcases wc with ⟨q, -⟩ | ⟨-, -, q⟩
      · rw [hnh] at q; cases q
      · exact q
    have hHw : zHw ν = Cond.code (zY ν) (zB ν) (zMof ν).2.2.1 (zRt ν) := by unfold zHw; rw [if_neg (by rw [hnh]; decide)]
    unfold zRecv at hrecv
    rcases hrecv with q | ⟨o, t, rfl, hio⟩
    · rw [hstat] at q; cases q
    obtain ⟨ho, -⟩ := List.forall_mem_cons.mp hoka
    have ho : 1 ≤ o ∧ o ≤ S.2.1 := ho
    have hci : (zMof ν).1 < 11 := (zKN hio (zObj _ h335 hstat)).1
    refine main h0 h335 (fun aC => ?_)
    have hrec := va_recv hK hP (zcl_at _ hci) (q0 := o.toNat - 1) (by rw [zWs_at ho.1 ho.2, zEn_obj ho.1 hio (by omega)])
    rw [← zOwn_cls _ hci] at hrec
    have hM := z_met hlt h0 h335 hoka hsa h1 σ
    refine vx_runV (nL := (zMof μ).2.2.1) (bytes := zB ν) (maxL := (zMof ν).2.2.1) (ret := zRt ν) (C := zOwn ν) (b := σ o.toNat) (As := t.map (zc σ ρ)) (n := t.length) ⟨hx, hb, hml, hown, hts⟩ hM
      ⟨⟨rfl, rfl, (by show d + 8 + 1 ≤ R.frames; omega), (by show 8 + ((zMof ν).2.2.1 + 11) + (64 * d + 200) ≤ R.locals; omega), facts h0 h335, by rw [hHw]; exact List.mem_cons_self, hts _ (zGd_in wc rfl), hts _ w2, w3, (fun sig hs => by have := w4 sig hs; rw [hstat] at this; simp at hlen this; omega), hts _ (zGd_in hw rfl)⟩, hts _ (zGd_in wi rfl), hts _ (zGd_in wsel rfl)⟩
      ⟨zPc_blind, hrec, hpre⟩ rfl (by simp) hl.2.1.1 (by simp [List.map_reverse]; rfl) (hW8 _) hd hcells
  · rename_i x
    simp only [Bool.and_eq_true, Bool.or_eq_true, Bool.not_eq_true', beq_iff_eq] at hf
    obtain ⟨⟨⟨hms, hstat⟩, hni⟩, -⟩ := hf
    have hlk2 : ((Cond.methodLink (zOwnL.getD (zMof μ).1 "") x (zY ν)).before args s = true ∨ ∃ host, (Cond.methodLinkNest (zOwnL.getD (zMof μ).1 "") x (zY ν) host).before args s = true) ∧ 0 < ν ∧ ν < 335 := by
      rcases hms with q | q
      · obtain ⟨hw, h0, h335⟩ := zMs_in (e := ((zMof μ).1, x, ν)) (by simpa using q)
        exact ⟨Or.inl (hts _ (zGd_in hw rfl)), h0, h335⟩
      · have q : ((zMof μ).1, x, ν) ∈ zMsN := by simpa using q
        obtain ⟨hw, h0, h335⟩ := zMsN_in q
        have hq := hKn.2.1.1 _ q
        dsimp only at hq h0 h335
        exact ⟨Or.inr ⟨"RainWheel", va_Nw.use (w := .methodLinkNest (zOwnL.getD (zMof μ).1 "") x (zY ν) "RainWheel") rfl hq⟩, h0, h335⟩
    obtain ⟨hlk2, h0, h335⟩ := hlk2
    obtain ⟨w1, w2, w3, w4⟩ := words h0 h335
    obtain ⟨wc, wi, -⟩ := zMw_all ν h0 h335
    rcases wi with ⟨q, -⟩ | ⟨-, wi, -⟩
    · rw [hstat] at q; cases q
    have hnh : (zMof ν).2.2.2.2.2 = false := zNoH _ h335 hstat
    have wc : Cond.code (zY ν) (zB ν) (zMof ν).2.2.1 (zRt ν) ∈ lw_tbl := by
      rcases wc with ⟨q, -⟩ | ⟨-, -, q⟩
      · rw [hnh] at q; cases q
      · exact q
    have hHw : zHw ν = Cond.code (zY ν) (zB ν) (zMof ν).2.2.1 (zRt ν) := by unfold zHw; rw [if_neg (by rw [hnh]; decide)]
    have hrt : zRt ν = none := zRtI _ h335 hni
    unfold zRecv at hrecv
    rcases hrecv with q | ⟨o, t, rfl, hio⟩
    · rw [hstat] at q; cases q
    refine main h0 h335 (fun aC => ?_)
    have hM := z_met hlt h0 h335 hoka hsa h1 σ
    have hBk : vx_Back l R p e below s args (zY ν) 3 8 (PreOf R (zCc r1.2 - zCc S) (zSl r1.2 - zSl S) (zPc D κ ρ A g σ ((2, o) :: t) S)) (PostOf (zQc D κ ρ A g σ S.2.1 r1) (zCc r1.2 - zCc S) (zSl r1.2 - zSl S) A) (vx_Post (zXc D κ A g σ S.2.1 r1) (zCc r1.2 - zCc S) (zSl r1.2 - zSl S) A) :=
      vx_back (bytes := zB ν) (maxL := (zMof ν).2.2.1) (ret := zRt ν) hM zPc_blind rfl rfl (by show d + 8 + 1 ≤ R.frames; omega) (by show 8 + ((zMof ν).2.2.1 + 11) + (64 * d + 200) ≤ R.locals; omega) (facts h0 h335) (by rw [hHw]; exact List.mem_cons_self) (fun a' U hW => word_at hW (good_of_word rfl) (hts _ w2))
    refine z_runI (nL := (zMof μ).2.2.1) (bytes := zB ν) (maxL := (zMof ν).2.2.1) (b := σ o.toNat) (As := t.map (zc σ ρ)) hx hb hml hown hBk hlk2 (hts _ (zGd_in wi rfl)) (by rw [← hrt]; exact hts _ (zGd_in wc rfl)) hni w3 (fun sig hs => by have := w4 sig hs; rw [hstat] at this; simp at hlen this ⊢; omega) hpre rfl hl.2.1.1 (by simp [List.map_reverse]; rfl) (hW8 _) hd hcells
  · rename_i x
    simp only [Bool.and_eq_true, beq_iff_eq] at hf
    obtain ⟨⟨hms, hstat⟩, -⟩ := hf
    obtain ⟨hw, h0, h335⟩ := zMs_in (e := ((zMof μ).1, x, ν)) (by simpa using hms)
    dsimp only at hw h0 h335
    obtain ⟨w1, w2, w3, w4⟩ := words h0 h335
    obtain ⟨wc, wi, -⟩ := zMw_all ν h0 h335
    have wi : Cond.static (zY ν) ∈ lw_tbl := by
      rcases wi with ⟨-, w⟩ | ⟨q, -⟩
      · exact w
      · rw [hstat] at q; cases q
    refine main h0 h335 (fun aC => ?_)
    have hM := z_met hlt h0 h335 hoka hsa h1 σ
    rcases wc with ⟨hh, wc⟩ | ⟨hh, -, wc⟩
    · have hHw : zHw ν = Cond.codeWith (zY ν) (zB ν) (zMof ν).2.2.1 (zRt ν) (zTab ν) := by unfold zHw; rw [if_pos hh]
      exact vx_runSX (nL := (zMof μ).2.2.1) (bytes := zB ν) (maxL := (zMof ν).2.2.1) (ret := zRt ν) (hh := zTab ν) (As := as.map (zc σ ρ)) (n := as.length) ⟨hx, hb, hml, hown, hts⟩ hM
        ⟨⟨rfl, rfl, (by show d + 8 + 1 ≤ R.frames; omega), (by show 8 + ((zMof ν).2.2.1 + 11) + (64 * d + 200) ≤ R.locals; omega), facts h0 h335, by rw [hHw]; exact List.mem_cons_self⟩, hts _ (zGd_in wc rfl), hts _ w2, w3, (fun sig hs => by have := w4 sig hs; rw [hstat] at this; simp at this; omega), hts _ (zGd_in hw rfl), hts _ (zGd_in wi rfl)⟩
        ⟨zPc_blind, hpre⟩ rfl (by simp) hl.2.1.1 (by simp [List.map_reverse]) (hW8 _) hd hcells
    · have hHw : zHw ν = Cond.code (zY ν) (zB ν) (zMof ν).2.2.1 (zRt ν) := by unfold zHw; rw [if_neg (by rw [hh]; decide)]
      exact vx_runS (nL := (zMof μ).2.2.1) (bytes := zB ν) (maxL := (zMof ν).2.2.1) (ret := zRt ν) (As := as.map (zc σ ρ)) (n := as.length) ⟨hx, hb, hml, hown, hts⟩ hM
        ⟨⟨rfl, rfl, (by show d + 8 + 1 ≤ R.frames; omega), (by show 8 + ((zMof ν).2.2.1 + 11) + (64 * d + 200) ≤ R.locals; omega), facts h0 h335, by rw [hHw]; exact List.mem_cons_self, hts _ (zGd_in wc rfl), hts _ w2, w3, (fun sig hs => by have := w4 sig hs; rw [hstat] at this; simp at this; omega), hts _ (zGd_in hw rfl)⟩, hts _ (zGd_in wi rfl)⟩
        ⟨zPc_blind, hpre⟩ rfl (by simp) hl.2.1.1 (by simp [List.map_reverse]) (hW8 _) hd hcells
  · cases hf
end ZC
