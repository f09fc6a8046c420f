theorem plB2_iff {x : Int32} {n : Nat} (hn : n ≤ 12480) : (decide (¬ x < nI 0) && decide (¬ nI n - nI 1 < x)) = true ↔ ∃ k, k < n ∧ x = nI k := by
  rw [Bool.and_eq_true, decide_eq_true_iff, decide_eq_true_iff, Int32.lt_iff_toInt_lt, Int32.lt_iff_toInt_lt, pk_sub_toInt (by omega) (by decide)]
  constructor
  · rintro ⟨q1, q2⟩
    have q1 : ¬ x.toInt < 0 := q1
    exact ⟨x.toInt.toNat, by omega, zr_int (by omega)⟩
  · rintro ⟨l, hl, rfl⟩
    rw [nI_toInt (by omega)]
    exact ⟨by show ¬ (l : Int) < 0; omega, by omega⟩
section PAPERS
variable {d : Nat} {h : AH} {c : Nat}
theorem CL_pcf {h' : AH} {n : Nat} {en : Nat → Ent} (a : pcf h h') (hC : CL h n en) : CL h' n en := by
  unfold CL at *
  rw [a.2.2.2.1 5 (by decide) (by decide) (by decide), a.2.2.2.1 6 (by decide) (by decide) (by decide)]
  exact hC
end PAPERS
