/-! the reference's net -/
theorem k0 : (nI 0).toNatClampNeg = 0 := by decide
theorem k1 : (nI 1).toNatClampNeg = 1 := by decide
theorem k2 : (nI 2).toNatClampNeg = 2 := by decide
theorem k3 : (nI 3).toNatClampNeg = 3 := by decide
theorem k4 : (nI 4).toNatClampNeg = 4 := by decide
theorem k5 : (nI 5).toNatClampNeg = 5 := by decide
theorem k6 : (nI 6).toNatClampNeg = 6 := by decide
theorem v0 : vp_in (nI 0) 187 := vp_in_nI (by decide) (by decide)
theorem v1 : vp_in (nI 1) 187 := vp_in_nI (by decide) (by decide)
theorem v2 : vp_in (nI 2) 187 := vp_in_nI (by decide) (by decide)
theorem v3 : vp_in (nI 3) 187 := vp_in_nI (by decide) (by decide)
theorem v4 : vp_in (nI 4) 187 := vp_in_nI (by decide) (by decide)
theorem v5 : vp_in (nI 5) 187 := vp_in_nI (by decide) (by decide)
theorem v6 : vp_in (nI 6) 187 := vp_in_nI (by decide) (by decide)
section MNET
variable {d : Nat} {h : AH} {s : NS}
theorem w_flip3 {f : Nat → Int64} {I w : Nat → Int32} {u v : Nat} {x : Int32} (huv : u ≠ v) (hu : u < 40) (hv : v < 40) (hg0 : gb (f u) v = true) (hs : ∀ a b, gb (f a) b = gb (f b) a) (h : ∀ a b, a < 40 → b < 40 → gb (f a) b = true → I (pr a b) = w (pr a b)) : ∀ a b, a < 40 → b < 40 → gb (flip f u v a) b = true → va_up I (pr u v) x (pr a b) = w (pr a b) := by
  intro a b ha hb hg
  rw [va_up_ne _ _ ?_]
  · exact w_flip2 huv hu hv hg0 hs h a b ha hb hg
  · intro e
    rw [gb_flip huv (by omega) (by omega)] at hg
    rcases pr_inj ha hb hu hv e with ⟨rfl, rfl⟩ | ⟨rfl, rfl⟩
    · rw [hg0, decide_eq_true (Or.inl ⟨rfl, rfl⟩)] at hg
      exact absurd hg (by decide)
    · rw [hs, hg0, decide_eq_true (Or.inr ⟨rfl, rfl⟩)] at hg
      exact absurd hg (by decide)
end MNET
