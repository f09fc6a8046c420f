/-! PIECES: the class -/
def tOK (f : Nat → Int64) (K : Int32) (j : Nat) : Prop := ¬ nI (ptr f (plE f j)) < K
def BL (f : Nat → Int64) (K : Int32) (i : Nat) (L : Nat → Int64) : Prop := ∀ u, u < 40 → ∀ v, v < 64 → (gb (L u) v = true ↔ ∃ j, j < i ∧ tOK f K j ∧ ((plE f j / 40 = u ∧ plE f j % 40 = v) ∨ (plE f j / 40 = v ∧ plE f j % 40 = u)))
theorem inT_iff {f : Nat → Int64} {K : Int32} {e : Nat} : inT f K e = true ↔ isE f e = true ∧ ¬ nI (ptr f e) < K := by
  unfold inT
  rw [Bool.and_eq_true, decide_eq_true_iff]
section PIECES
variable {d : Nat} {f : Nat → Int64} {K : Int32}
theorem BL_skip {i : Nat} {L : Nat → Int64} (h : BL f K i L) (hn : ¬ tOK f K i) : BL f K (i + 1) L := by
  intro u hu v hv
  rw [h u hu v hv]
  constructor
  · rintro ⟨j, j1, j2, j3⟩
    exact ⟨j, by omega, j2, j3⟩
  · rintro ⟨j, j1, j2, j3⟩
    by_cases e : j = i
    · rw [e] at j2; exact absurd j2 hn
    · exact ⟨j, by omega, j2, j3⟩
theorem BL_add {i a b : Nat} {L L' : Nat → Int64} (h : BL f K i L) (hy : tOK f K i) (ha : plE f i / 40 = a) (hb : plE f i % 40 = b) (ha4 : a < 40) (hb4 : b < 40) (hab : a ≠ b) (hL : L' = va_up (va_up L a (L a ||| one b)) b (L b ||| one a)) : BL f K (i + 1) L' := by
  intro u hu v hv
  have e : gb (L' u) v = true ↔ gb (L u) v = true ∨ (u = a ∧ v = b) ∨ (u = b ∧ v = a) := by
    rw [hL]
    by_cases e1 : u = b
    · subst e1
      rw [va_up_self, gb_or, gb_one (by omega), Bool.or_eq_true, decide_eq_true_iff]
      constructor
      · rintro (q | q)
        · exact Or.inl q
        · exact Or.inr (Or.inr ⟨rfl, q⟩)
      · rintro (q | ⟨q, _⟩ | ⟨_, q⟩)
        · exact Or.inl q
        · exact absurd q.symm hab
        · exact Or.inr q
    · rw [va_up_ne _ _ e1]
      by_cases e2 : u = a
      · subst e2
        rw [va_up_self, gb_or, gb_one (by omega), Bool.or_eq_true, decide_eq_true_iff]
        constructor
        · rintro (q | q)
          · exact Or.inl q
          · exact Or.inr (Or.inl ⟨rfl, q⟩)
        · rintro (q | ⟨_, q⟩ | ⟨q, _⟩)
          · exact Or.inl q
          · exact Or.inr q
          · exact absurd q e1
      · rw [va_up_ne _ _ e2]
        constructor
        · exact Or.inl
        · rintro (q | ⟨q, _⟩ | ⟨q, _⟩)
          · exact q
          · exact absurd q e2
          · exact absurd q e1
  rw [e, h u hu v hv]
  constructor
  · rintro (⟨j, j1, j2, j3⟩ | ⟨q1, q2⟩ | ⟨q1, q2⟩)
    · exact ⟨j, by omega, j2, j3⟩
    · exact ⟨i, by omega, hy, Or.inl ⟨by omega, by omega⟩⟩
    · exact ⟨i, by omega, hy, Or.inr ⟨by omega, by omega⟩⟩
  · rintro ⟨j, j1, j2, j3⟩
    by_cases z : j = i
    · subst z
      rcases j3 with ⟨q1, q2⟩ | ⟨q1, q2⟩
      · exact Or.inr (Or.inl ⟨by omega, by omega⟩)
      · exact Or.inr (Or.inr ⟨by omega, by omega⟩)
    · exact Or.inl ⟨j, by omega, j2, j3⟩
theorem BL_VA (hf : GF f) {L : Nat → Int64} (h : BL f K (ecn f) L) {u v : Nat} (hu : u < 40) (hv : v < 64) : gb (L u) v = true ↔ VA f K u v := by
  rw [h u hu v hv]
  constructor
  · rintro ⟨j, j1, j2, j3⟩
    have h1 := plE_edge hf j1
    have h2 := (plE_ok hf j1).1
    have h3 := (isE_b h1).1
    have hT : inT f K (plE f j) = true := inT_iff.mpr ⟨h1, j2⟩
    have hp : pr u v = plE f j := by
      unfold pr
      rcases j3 with ⟨q1, q2⟩ | ⟨q1, q2⟩ <;> omega
    exact ⟨hu, by rcases j3 with ⟨q1, q2⟩ | ⟨q1, q2⟩ <;> omega, by rcases j3 with ⟨q1, q2⟩ | ⟨q1, q2⟩ <;> omega, by rw [hp]; exact hT⟩
  · rintro ⟨h1, h2, h3, h4⟩
    obtain ⟨k1, k2⟩ := inT_iff.mp h4
    obtain ⟨j, j1, j2⟩ := pl_all hf (pr_lt h1 h2) k1
    refine ⟨j, j1, ?_, ?_⟩
    · unfold tOK
      rw [← j2]; exact k2
    · rw [← j2]
      unfold pr
      omega
end PIECES
