/-! what a method's activation knows; what is to be shown of a place in it -/
def zStrO : List (String × Nat × String) := [("RainWheel", 371, "there can be no such argument"), ("RainWheel$Road", 101, "person"), ("RainWheel$Road", 107, "deed"), ("RainWheel$Road", 109, "needs"), ("RainWheel$Road", 111, "rain"), ("RainWheel$Road", 113, "yard"), ("RainWheel$Road", 115, "board"), ("RainWheel$Road", 117, "load"), ("RainWheel$Road", 118, "nut"), ("RainWheel$Road", 120, "stops"), ("RainWheel$Road", 121, "cause"), ("RainWheel$Road", 123, "loses"), ("RainWheel$Road", 124, "soft"), ("RainWheel$Law", 82, "least"), ("RainWheel$Law", 92, "most"), ("RainWheel$Law", 101, "minutes"), ("RainWheel$Law", 103, "hands"), ("RainWheel$Law", 105, "strong"), ("RainWheel$Law", 107, "rain"), ("RainWheel$Law", 109, "minute"), ("RainWheel$Law", 111, "out"), ("RainWheel", 364, "there is no such element"), ("RainWheel", 376, "there are more than 5 deeds"), ("RainWheelModel", 248, "person"), ("RainWheelModel", 258, "deed"), ("RainWheelModel", 259, "board"), ("RainWheelModel", 260, "nut"), ("RainWheelModel", 272, "cause"), ("RainWheelModel", 261, "needs"), ("RainWheelModel", 263, "rain"), ("RainWheelModel", 264, "yard"), ("RainWheelModel", 266, "load"), ("RainWheelModel", 268, "stops"), ("RainWheelModel", 270, "loses"), ("RainWheelModel", 273, "soft"), ("RainWheelModel", 344, "least"), ("RainWheelModel", 349, "most"), ("RainWheelModel", 331, "minutes"), ("RainWheelModel", 337, "hands"), ("RainWheelModel", 339, "strong"), ("RainWheelModel", 340, "minute"), ("RainWheelModel", 342, "out")]
def zCastL : List (String × String) := [("java/lang/IllegalArgumentException", "java/lang/IllegalArgumentException"), ("java/util/NoSuchElementException", "java/util/NoSuchElementException"), ("java/lang/IllegalStateException", "java/lang/IllegalStateException"), ("RainWheel", "java/lang/Object"), ("RainWheel$Tape", "java/lang/Object"), ("RainWheel$Course", "java/lang/Object"), ("RainWheel$Soonest", "java/lang/Object"), ("RainWheel$Ride", "java/lang/Object"), ("RainWheel$Crosswise", "java/lang/Object"), ("RainWheel$Road", "java/lang/Object"), ("RainWheel$Law", "java/lang/Object"), ("RainWheel$Plan", "java/lang/Object"), ("RainWheel$Book", "java/lang/Object"), ("RainWheelModel", "java/lang/Object"), ("java/lang/IllegalArgumentException", "java/lang/Object"), ("java/util/NoSuchElementException", "java/lang/Object"), ("java/lang/IllegalStateException", "java/lang/Object"), ("java/lang/Throwable", "java/lang/Object"), ("java/lang/String", "java/lang/Object")]
def zDeclL : List MethodName := [⟨"java/lang/RuntimeException", "<init>", "()V"⟩, ⟨"java/lang/RuntimeException", "<init>", "(Ljava/lang/String;)V"⟩, ⟨"java/lang/Exception", "<init>", "()V"⟩, ⟨"java/lang/Exception", "<init>", "(Ljava/lang/String;)V"⟩, ⟨"java/lang/Throwable", "<init>", "()V"⟩, ⟨"java/lang/Throwable", "<init>", "(Ljava/lang/String;)V"⟩]
def zNcL : List (String × String) := [("java/lang/IllegalArgumentException", "java/util/NoSuchElementException"), ("java/lang/IllegalStateException", "java/lang/IllegalArgumentException")]
/-- the script and the one static row -/
def zKa (ρ : Nat → Nat) (A : Nat → Prop) (g : Int → Int) (U : State) : Prop :=
  (∃ N : Nat, N ≤ 3584 ∧ g (-1) = N ∧ va_T .int (ρ 0) N (fun j => .int (Int32.ofInt (g j))) A U U.heap ∧ ∀ j : Nat, j < N → zr32 (g j)) ∧
  va_Z "RainWheel" "MOST_OF_KIND" "[I" (.ref (ρ 1)) A U U.heap ∧ va_T .int (ρ 1) 12 (fun j => .int (Int32.ofInt (zMK.getD j 0))) A U U.heap
/-- words that are not of the good kind -/
def zKb (U : State) : Prop := (∀ e ∈ zMsN, va_Nw (.methodLinkNest (zOwnL.getD e.1 "") e.2.1 (zY e.2.2) "RainWheel") U) ∧ va_Nw (.fieldLinkNest "RainWheel$Road" 9 "RainWheel" "MOST_OF_KIND" "[I" "RainWheel") U ∧ va_AOA .int U ∧ va_AO "RainWheel$Plan" U ∧ (∀ w ∈ zCastL, va_Nw (.castable w.1 w.2) U) ∧ (∀ x ∈ zDeclL, va_Nw (.declares x) U)
/-- the String constants -/
def zKc1 (ρ : Nat → Nat) (A : Nat → Prop) (U : State) (j : Nat) : Prop := vk_R (zStrO.getD j ("", 0, "")).1 (zStrO.getD j ("", 0, "")).2.1 (zStrO.getD j ("", 0, "")).2.2 (ρ (100 + j)) U ∧ va_O "java/lang/String" (ρ (100 + j)) A U U.heap ∧ va_OF "java/lang/String" "coder" "B" (.int 0) (ρ (100 + j)) A U U.heap ∧ va_OF "java/lang/String" "value" "[B" (.ref (ρ (200 + j))) (ρ (100 + j)) A U U.heap ∧ va_T .byte (ρ (200 + j)) (zStr.getD j []).length (fun k => .int (Int32.ofInt ((zStr.getD j []).getD k 0))) A U U.heap
def zKc (ρ : Nat → Nat) (A : Nat → Prop) (U : State) : Prop := ∀ j, j < 42 → zKc1 ρ A U j
/-- statics of the library's -/
def zKd (A : Nat → Prop) (U : State) : Prop := vx_Zq Bundle.tN "UNASSIGNED_STACK" Bundle.steD A U U.heap ∧ vx_Zq Bundle.tN "SUPPRESSED_SENTINEL" Bundle.listD A U U.heap ∧ (va_Z "java/lang/String" "COMPACT_STRINGS" "Z" (.int 1) A U U.heap ∧ va_Zq "jdk/internal/util/Preconditions" "SIOOBE_FORMATTER" "Ljava/util/function/BiFunction;" A U U.heap) ∧ ∀ w ∈ zNcL, va_Nc w.1 w.2 U
def zKn (ρ : Nat → Nat) (A : Nat → Prop) (g : Int → Int) (U : State) : Prop := zKa ρ A g U ∧ zKb U ∧ zKc ρ A U ∧ zKd A U
theorem va_AOA.moved {ty : FieldType} {u U : State} (hW : u.WarmedH U.vm) (h : va_AOA ty u) : va_AOA ty U := by
  have h1 : (Cond.arrayOver (.array ty)).before #[] (u.setVm U.vm) = true := by rw [Cond.arrayOver_setVmC hW.alike]; exact h
  exact h1
theorem zKn.move {ρ : Nat → Nat} {A : Nat → Prop} {g : Int → Int} {u U : State} (h : zKn ρ A g u) (hW : u.WarmedH U.vm) (hH : ∀ q : Nat, q < u.heap.size → ¬ A q → U.heap[q]? = u.heap[q]?) : zKn ρ A g U := by
  obtain ⟨⟨⟨N, a1, a2, a3, a4⟩, a5, a6⟩, ⟨b1, b2, b3, b4, b5, b6⟩, hc, d1, d2, d3, d4⟩ := h
  have hv := hW.alike
  refine ⟨⟨⟨N, a1, a2, (a3.moved hv).kept hH, a4⟩, (a5.moved hv).kept hH, (a6.moved hv).kept hH⟩, ⟨fun e he => (b1 e he).warmM hW, b2.warmF hW, b3.moved hW, b4.moved hv, fun w hw => (b5 w hw).warmC hW, fun x hx => (b6 x hx).warmD hW⟩, fun j hj => ?_, (d1.moved hv).kept hH, (d2.moved hv).kept hH, ⟨(d3.1.moved hv).kept hH, (d3.2.moved hv).kept hH⟩, fun w hw => (d4 w hw).moved hv⟩
  obtain ⟨c1, c2, c3, c4, c5⟩ := hc j hj
  exact ⟨c1.warm hW, (c2.moved hv).kept hH, (c3.moved hv).kept hH, (c4.moved hv).kept hH, (c5.moved hv).kept hH⟩
def zInv (g : Int → Int) (S : zS) : Prop := zRg S.2.1 S.2.2.2 ∧ (S.1 = true → zLay S.2.1 S.2.2.2) ∧ S.2.2.2 0 = g ∧ S.2.1 ≤ 156
def zWd (D : va_G) (κ : Nat → ClassId) (σ : Nat → Nat) (A : Nat → Prop) (g : Int → Int) (S : zS) (t : State) : Prop := va_P D vwCl (zWs κ σ S.2.1 S.2.2.2) t.heap ∧ va_K D vwCl (zTys κ) t ∧ va_D A (zWs κ σ S.2.1 S.2.2.2) ∧ zInv g S
/-- cells and slots that an abstract state stands for -/
def zSum : Nat → Nat
  | 0 => 0
  | k + 1 => zSum k + (zK (k + 1 : Nat)).2
def zCc (S : zS) : Nat := S.2.1 + S.2.2.1
def zSl (S : zS) : Nat := zSum S.2.1 + 6 * S.2.2.1
def zHw (ν : Nat) : Cond := if (zMof ν).2.2.2.2.2 = true then .codeWith (zY ν) (zB ν) (zMof ν).2.2.1 (zRt ν) (zTab ν) else .code (zY ν) (zB ν) (zMof ν).2.2.1 (zRt ν)
def zRm (d : Nat) (S : zS) (r : zO) : Room := { frames := d + 8, cells := zCc r.2 - zCc S, slots := zSl r.2 - zSl S, locals := 64 * d + 200 }
def zQc (D : va_G) (κ : Nat → ClassId) (ρ : Nat → Nat) (A : Nat → Prop) (g : Int → Int) (σ0 : Nat → Nat) (n0 : Nat) (r : zO) : Array Value → State → Outcome → State → Prop := fun _ st oc t =>
  ∃ (vs : List zV) (σ : Nat → Nat), r.1 = .inl vs ∧ (∀ j, j ≤ n0 → σ j = σ0 j) ∧ oc = .returned (vs.map (zc σ ρ)).head? ∧ vs.length ≤ 1 ∧ (∀ v ∈ vs, zOk r.2.2.1 v) ∧ zWd D κ σ A g r.2 t ∧ va_F A st t
def zXc (D : va_G) (κ : Nat → ClassId) (A : Nat → Prop) (g : Int → Int) (σ0 : Nat → Nat) (n0 : Nat) (r : zO) : String → State → State → Prop := fun E st t =>
  ∃ (k : Nat) (σ : Nat → Nat), r.1 = .inr k ∧ E = zExc k ∧ (∀ j, j ≤ n0 → σ j = σ0 j) ∧ zWd D κ σ A g r.2 t ∧ va_F A st t
def zPc (D : va_G) (κ : Nat → ClassId) (ρ : Nat → Nat) (A : Nat → Prop) (g : Int → Int) (σ : Nat → Nat) (as : List zV) (S : zS) : Array Value → State → Prop := va_Pc (as.map (zc σ ρ)) (fun U => zWd D κ σ A g S U ∧ zKn ρ A g U ∧ ∀ q, U.heap.size ≤ q → A q)
def zMet (l : Launch) (D : va_G) (κ : Nat → ClassId) (ρ : Nat → Nat) (A : Nat → Prop) (g : Int → Int) (d ν : Nat) (as : List zV) (S : zS) (r : zO) : Prop :=
  ∀ σ, vx_Met l (zY ν) (zHw ν :: zGd) (zRm d S r) (zPc D κ ρ A g σ as S) (zQc D κ ρ A g σ S.2.1 r) (zXc D κ A g σ S.2.1 r) (zCc r.2 - zCc S) (zSl r.2 - zSl S) A
/-- an activation of method μ, with d calls' room -/
def zCx (l : Launch) (D : va_G) (κ : Nat → ClassId) (ρ : Nat → Nat) (A : Nat → Prop) (g : Int → Int) (d μ : Nat) (p : Program) (R : Room) (s : State) (m : MethodId) (args : Array Value) (meth : Method) (c : Code) : Prop :=
  (l.stackTraces = false ∧ p.tables.exec = Jvm.exec ∧ c.code = zB μ ∧ c.maxLocals = (zMof μ).2.2.1 ∧ s.vm.findClass (zOwnL.getD (zMof μ).1 "") = some m.cls ∧ (∀ w ∈ zGd, w.before args s = true)) ∧ (meth.sig.returnType = zRt μ ∧ meth.locks = false ∧ meth.name = (zY μ).name ∧ c.exceptionTable.toList = tableOf (zTab μ)) ∧ va_K D vwCl (zTys κ) s ∧ zKn ρ A g s ∧ (∀ q, s.heap.size ≤ q → A q) ∧ d + 8 ≤ R.frames ∧ 64 * d + 200 ≤ R.locals
def zLe (S S' : zS) : Prop := S.2.1 ≤ S'.2.1 ∧ S.2.2.1 ≤ S'.2.2.1
theorem zSum_mono {a b : Nat} (h : a ≤ b) : zSum a ≤ zSum b := by
  induction b with
  | zero =>
    have : a = 0 := by omega
    rw [this]
    exact Nat.le_refl _
  | succ k ih =>
    by_cases e : a = k + 1
    · rw [e]
      exact Nat.le_refl _
    · have := ih (by omega)
      show zSum a ≤ zSum k + (zK (k + 1 : Nat)).2
      omega
theorem zLe_cc {S S' : zS} (h : zLe S S') : zCc S ≤ zCc S' := by unfold zCc; have h1 := h.1; have h2 := h.2; omega
theorem zLe_sl {S S' : zS} (h : zLe S S') : zSl S ≤ zSl S' := by unfold zSl; have h1 := zSum_mono h.1; have h2 := h.2; omega
theorem zLe.trans {S S' S2 : zS} (h : zLe S S') (h' : zLe S' S2) : zLe S S2 := ⟨Nat.le_trans h.1 h'.1, Nat.le_trans h.2 h'.2⟩
/-- from this place of method μ the machine ends as r says -/
def zSnd (l : Launch) (D : va_G) (κ : Nat → ClassId) (ρ : Nat → Nat) (A : Nat → Prop) (g : Int → Int) (d μ pc : Nat) (ls st : List zV) (S : zS) (r : zO) : Prop :=
  zLe S r.2 ∧ ∀ (p : Program) (e : Env) (R : Room) (s : State) (m : MethodId) (args : Array Value) (below : List Frame) (meth : Method) (c : Code), zCx l D κ ρ A g d μ p R s m args meth c →
    ∀ (σ0 : Nat → Nat) (n0 : Nat) (σ : Nat → Nat) (H : Heap) (locs : List Loc) (cells slots : Nat) (lsC : Array Slot), n0 ≤ S.2.1 → (∀ j, j ≤ n0 → σ j = σ0 j) →
      va_P D vwCl (zWs κ σ S.2.1 S.2.2.2) H → va_D A (zWs κ σ S.2.1 S.2.2.2) → va_S A s.heap H locs → zInv g S → zLs σ ρ S.2.1 (zMof μ).2.2.1 ls lsC → (∀ v ∈ st, zOk S.2.1 v) →
      cells + (zCc r.2 - zCc S) ≤ R.cells → slots + (zSl r.2 - zSl S) ≤ R.slots →
      W p l e R s m args below meth c H locs cells slots (vx_MQ below (zQc D κ ρ A g σ0 n0 r) (zXc D κ A g σ0 n0 r) args s R.cells R.slots A) (F0 m pc lsC (st.map (zc σ ρ)))
