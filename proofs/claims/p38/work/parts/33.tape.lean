/-! THE TAPE: feed, clear -/
def TAPE (h : AH) : Prop := ∃ len, h.I 23 1 = nI len ∧ h.I 53 19 = nI len ∧ len ≤ 160 ∧ ∀ i, i < len → ∃ k, 1 ≤ k ∧ k ≤ 127 ∧ h.I 24 i = nI k ∧ h.I 66 i = nI k
def tpf (h h' : AH) : Prop := frm [23, 24, 53, 66] [] h h' ∧ h'.I 53 10 = h.I 53 10 ∧ h'.I 53 25 = h.I 53 25
theorem byte4 : ∀ k, k < 128 → (nI k).toInt8.toInt32.toInt8.toInt32 = nI k := by decide +kernel
theorem v160 {i : Nat} (h : i < 160) : vp_in (nI i) 160 := vp_in_nI h (by decide)
