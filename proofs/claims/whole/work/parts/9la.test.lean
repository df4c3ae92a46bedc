/-! a run's end compared -/
def yIs (r : Option yCf) (D : yCf) : Bool := match r with
  | none => false
  | some C => decide (C.1 = D.1) && (decide (C.2.1 = D.2.1) && (decide (C.2.2.1 = D.2.2.1) && (decide (C.2.2.2.1 = D.2.2.2.1) && (decide (C.2.2.2.2.1 = D.2.2.2.2.1) && (decide (C.2.2.2.2.2.1 = D.2.2.2.2.2.1) && decide (C.2.2.2.2.2.2 = D.2.2.2.2.2.2))))))
theorem yIs_ok {r : Option yCf} {D : yCf} (h : yIs r D = true) : r = some D := by
  cases r with
  | none => exact Bool.noConfusion (show false = true from h)
  | some C =>
    have h : (decide (C.1 = D.1) && (decide (C.2.1 = D.2.1) && (decide (C.2.2.1 = D.2.2.1) && (decide (C.2.2.2.1 = D.2.2.2.1) && (decide (C.2.2.2.2.1 = D.2.2.2.2.1) && (decide (C.2.2.2.2.2.1 = D.2.2.2.2.2.1) && decide (C.2.2.2.2.2.2 = D.2.2.2.2.2.2))))))) = true := h
    simp only [Bool.and_eq_true, decide_eq_true_eq] at h
    obtain ⟨h1, h2, h3, h4, h5, h6, h7⟩ := h
    exact congrArg some (Prod.ext h1 (Prod.ext h2 (Prod.ext h3 (Prod.ext h4 (Prod.ext h5 (Prod.ext h6 h7))))))
