/-! what is only asked -/
section ASK
variable {d : Nat} {h : AH} {c : Nat}
theorem cN_frm {h' : AH} {s : NS} {n : Nat} {en : Nat → Ent} {SI SL : List Nat} (hf : frm SI SL h h') (q : cN h s n en) (h1 : ∀ k ∈ [2, 4, 5, 6], k ∉ SI) (h2 : ∀ k ∈ [2, 3], k ∉ SL) : cN h' s n en :=
  ⟨CN_frm hf q.1 (h1 _ (by decide)) (h1 _ (by decide)) (h2 _ (by decide)) (h2 _ (by decide)), CL_frm hf q.2 (h1 _ (by decide)) (h1 _ (by decide))⟩
theorem sw_in {x : Int32} {n : Nat} (hx : ¬ (x.toInt < 0 ∨ (n : Int) < x.toInt)) : ∃ k, k ≤ n ∧ x = nI k := by
  refine ⟨x.toInt.toNat, by omega, zr_int (by omega)⟩
end ASK
