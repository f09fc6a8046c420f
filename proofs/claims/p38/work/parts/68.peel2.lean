/-! the reference's peeling -/
theorem v1600 {i : Nat} (h : i < 1600) : vp_in (nI i) 1600 := vp_in_nI h (by decide)
theorem PF_0 (f : Nat → Int64) (A B C : Nat → Int32) : PF f 0 A B C := fun s hs => absurd hs (Nat.not_lt_zero _)
theorem PF_s {f : Nat → Int64} {t : Nat} {A B C A' B' C' : Nat → Int32} {x : Int32} (hf : GF f) (ht : t < ecn f) (h : PF f t A B C) (hA : A' = va_up A (plE f t) (nI (plM f (t + 1) + 2))) (hB : B' = va_up B (plE f t) (nI t)) (hC : C' = va_up C t x) (hx : x = nI (plE f t)) : PF f (t + 1) A' B' C' := by
  intro s hs
  subst hA hB hC hx
  by_cases e : s = t
  · subst e
    rw [va_up_self, va_up_self, va_up_self]
    exact ⟨rfl, rfl, rfl⟩
  · have hst : s < t := by omega
    have hne := plE_ne hf hst ht
    rw [va_up_ne _ _ (fun q => hne q.symm), va_up_ne _ _ (fun q => hne q.symm), va_up_ne _ _ e]
    exact h s hst
