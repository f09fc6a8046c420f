/-! the calls on edges, in pairs -/
theorem bt0 : ¬ bI true = 0 := by decide
theorem bf0 : bI false = 0 := by decide
theorem wbd_1 {z : Int32} (q : wbd z) : ¬ z < (-2000000) := by
  rw [Int32.lt_iff_toInt_lt]
  have := q.1
  show ¬ z.toInt < -2000000
  omega
theorem wbd_2 {z : Int32} (q : wbd z) : z ≤ nI 2000000 := by
  rw [Int32.le_iff_toInt_le]
  exact q.2
theorem wbd_3 {z : Int32} (q : wbd z) : ¬ nI 2000000 < z := by
  rw [Int32.lt_iff_toInt_lt]
  have := q.2
  show ¬ 2000000 < z.toInt
  omega
theorem wbd_n {z : Int32} (q : ¬ wbd z) : z < (-2000000) ∨ (¬ z < (-2000000) ∧ ¬ z ≤ nI 2000000 ∧ nI 2000000 < z) := by
  rw [Int32.lt_iff_toInt_lt, Int32.lt_iff_toInt_lt, Int32.le_iff_toInt_le]
  show z.toInt < -2000000 ∨ (¬ z.toInt < -2000000 ∧ ¬ z.toInt ≤ 2000000 ∧ 2000000 < z.toInt)
  unfold wbd at q
  omega
