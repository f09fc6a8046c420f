/-! small helps -/
theorem bTb {b : Bool} (h : ¬ bI b = 0) : b = true := bT h
theorem bFb {b : Bool} (h : bI b = 0) : b = false := bF h
theorem sI_n {h : AH} {k j r : Nat} {x : Int32} (hr : r ≠ k) : (h.sI k j x).I r = h.I r := va_up_ne _ _ hr
theorem sI_e {h h' : AH} {k j : Nat} {x : Int32} (e : h' = h.sI k j x) : h'.I k j = x := by rw [e, AH.sI_I, va_up_self]
theorem sI_r {h h' : AH} {k j r : Nat} {x : Int32} (e : h' = h.sI k j x) (hr : r ≠ k) : h'.I r = h.I r := by rw [e]; exact va_up_ne _ _ hr
