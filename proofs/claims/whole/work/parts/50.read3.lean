/-! a number on THE TAPE -/
def dgt (len : Nat) (T : Nat → Nat) (p : Nat) : Bool := decide (p < len) && (decide (48 ≤ T p) && decide (T p ≤ 57))
def rd (len : Nat) (T : Nat → Nat) : Nat → Nat → Nat → Nat × Nat
  | 0, p, a => (p, a)
  | n + 1, p, a => if dgt len T p = true then rd len T n (p + 1) (a * 10 + (T p - 48)) else (p, a)
theorem rd_s (len : Nat) (T : Nat → Nat) (n p a : Nat) : rd len T (n + 1) p a = if dgt len T p = true then rd len T n (p + 1) (a * 10 + (T p - 48)) else (p, a) := rfl
theorem dgt_b {len p : Nat} {T : Nat → Nat} (h : dgt len T p = true) : p < len ∧ 48 ≤ T p ∧ T p ≤ 57 := by
  unfold dgt at h
  rw [Bool.and_eq_true, Bool.and_eq_true, decide_eq_true_iff, decide_eq_true_iff, decide_eq_true_iff] at h
  exact h
theorem rd_le {len : Nat} {T : Nat → Nat} : ∀ n p a, p ≤ len → (rd len T n p a).1 ≤ len ∧ p ≤ (rd len T n p a).1
  | 0, p, a, h => ⟨h, Nat.le_refl _⟩
  | n + 1, p, a, h => by
    rw [rd_s]
    by_cases z : dgt len T p = true
    · rw [if_pos z]
      have := rd_le (len := len) (T := T) n (p + 1) (a * 10 + (T p - 48)) (dgt_b z).1
      exact ⟨this.1, by omega⟩
    · rw [if_neg z]
      exact ⟨h, Nat.le_refl _⟩
theorem rd_a {len : Nat} {T : Nat → Nat} : ∀ n p a, (rd len T n p a).2 < (a + 1) * 10 ^ n
  | 0, p, a => by show a < (a + 1) * 1; omega
  | n + 1, p, a => by
    have h1 : (a + 1) * 10 ^ (n + 1) = (a * 10 + 10) * 10 ^ n := by rw [Nat.pow_succ, Nat.mul_comm (10 ^ n) 10, ← Nat.mul_assoc, Nat.add_mul, Nat.one_mul]
    rw [rd_s, h1]
    by_cases z : dgt len T p = true
    · rw [if_pos z]
      have h2 := rd_a (len := len) (T := T) n (p + 1) (a * 10 + (T p - 48))
      have h3 := (dgt_b z).2.2
      exact Nat.lt_of_lt_of_le h2 (Nat.mul_le_mul_right _ (by omega))
    · rw [if_neg z]
      have : (a * 10 + 10) * 1 ≤ (a * 10 + 10) * 10 ^ n := Nat.mul_le_mul_left _ (Nat.pow_pos (by decide))
      show a < _
      omega
section READ3
variable {d : Nat} {h : AH} {len p : Nat} {T : Nat → Nat} {ft : Option Nat}
theorem nx_lo (hT : ∀ i, i < len → T i ≤ 127) : (nx len T p < nI 48 ∨ ¬ nx len T p ≤ nI 57) ↔ dgt len T p = false := by
  unfold nx
  by_cases z : p < len
  · have := hT p z
    rw [if_pos z, nI_ltE (by omega) (by decide), nI_leE (by omega) (by decide)]
    unfold dgt
    rw [decide_eq_true z, Bool.true_and]
    by_cases y1 : 48 ≤ T p <;> by_cases y2 : T p ≤ 57 <;> simp [y1, y2] <;> omega
  · rw [if_neg z]
    unfold dgt
    rw [decide_eq_false z, Bool.false_and]
    exact ⟨fun _ => rfl, fun _ => Or.inl (by decide)⟩
end READ3
