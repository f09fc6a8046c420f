/-! numbers put on THE PAPER -/
def nt : Nat → Nat → Tx → Tx
  | 0, _, q => q
  | n + 1, v, q => tw (if v ≤ 9 then q else nt n (v / 10) q) (48 + v % 10)
def ntx (v : Nat) (q : Tx) : Tx := if v = 0 then q else nt 7 v q
theorem nt_fuel : ∀ n v q, v < 10 ^ (n + 1) → nt (n + 2) v q = nt (n + 1) v q
  | 0, v, q, h => by
    have h : v < 10 := h
    show tw (if v ≤ 9 then q else _) _ = tw (if v ≤ 9 then q else _) _
    rw [if_pos (by omega), if_pos (by omega)]
  | n + 1, v, q, h => by
    show tw (if v ≤ 9 then q else nt (n + 2) (v / 10) q) _ = tw (if v ≤ 9 then q else nt (n + 1) (v / 10) q) _
    have : v / 10 < 10 ^ (n + 1) := Nat.div_lt_of_lt_mul (by rw [Nat.pow_succ, Nat.mul_comm] at h; exact h)
    rw [nt_fuel n (v / 10) q this]
theorem nt_len : ∀ n m v q, 1 ≤ m → v < 10 ^ m → (nt n v q).1 ≤ q.1 + m
  | 0, m, v, q, _, _ => Nat.le_add_right _ _
  | n + 1, m, v, q, hm, h => by
    show (if v ≤ 9 then q else nt n (v / 10) q).1 + 1 ≤ _
    by_cases z : v ≤ 9
    · rw [if_pos z]; omega
    · rw [if_neg z]
      obtain ⟨m', rfl⟩ : ∃ m', m = m' + 1 := ⟨m - 1, by omega⟩
      have h1 : v / 10 < 10 ^ m' := Nat.div_lt_of_lt_mul (by rw [Nat.pow_succ, Nat.mul_comm] at h; exact h)
      have h2 : 1 ≤ m' := by
        apply Classical.byContradiction
        intro y
        have : m' = 0 := by omega
        subst this
        have : v < 10 := h
        omega
      have := nt_len n m' (v / 10) q h2 h1
      omega
theorem ntx_len {m v j : Nat} {q : Tx} (h : v < 10 ^ m) (hj : 10 ^ j ≤ v) : (ntx (v / 10 ^ (j + 1)) q).1 + 1 ≤ q.1 + m := by
  have hjm : j < m := by
    apply Classical.byContradiction
    intro y
    have := Nat.pow_le_pow_right (show 0 < 10 by decide) (show m ≤ j by omega)
    omega
  unfold ntx
  by_cases z : v / 10 ^ (j + 1) = 0
  · rw [if_pos z]; omega
  · rw [if_neg z]
    have hj1 : j + 1 < m := by
      apply Classical.byContradiction
      intro y
      have : m = j + 1 := by omega
      subst this
      exact z (Nat.div_eq_of_lt h)
    have := nt_len 7 (m - (j + 1)) (v / 10 ^ (j + 1)) q (by omega) (Nat.div_lt_of_lt_mul (by rw [← Nat.pow_add, show j + 1 + (m - (j + 1)) = m by omega]; exact h))
    omega
theorem ntx_step {v j : Nat} {q : Tx} (h : v < 10 ^ 7) (hj : 10 ^ j ≤ v) : tw (ntx (v / 10 ^ (j + 1)) q) (48 + v / 10 ^ j % 10) = ntx (v / 10 ^ j) q := by
  have hp : 0 < 10 ^ j := Nat.pow_pos (by decide)
  have h1 : v / 10 ^ j ≠ 0 := by
    have := Nat.div_pos hj hp
    omega
  have e1 : v / 10 ^ (j + 1) = v / 10 ^ j / 10 := by rw [Nat.pow_succ, Nat.div_div_eq_div_mul]
  have h2 : v / 10 ^ j < 10 ^ 7 := Nat.lt_of_le_of_lt (Nat.div_le_self _ _) h
  have e2 : ntx (v / 10 ^ j) q = nt 7 (v / 10 ^ j) q := if_neg h1
  rw [e2, e1]
  generalize v / 10 ^ j = w at h1 h2
  show _ = tw (if w ≤ 9 then q else nt 6 (w / 10) q) (48 + w % 10)
  unfold ntx
  by_cases z : w ≤ 9
  · rw [if_pos (by omega), if_pos z]
  · rw [if_neg (by omega), if_neg z, nt_fuel 5 (w / 10) q (Nat.div_lt_of_lt_mul (by rw [show 10 * 10 ^ (5 + 1) = 10 ^ 7 by decide]; exact h2))]
section NUMBER
variable {d : Nat} {h : AH} {q : Tx}
theorem p10 : ∀ j, j ≤ 6 → 10 ^ j ≤ 1000000 := fun j hj => Nat.le_trans (Nat.pow_le_pow_right (by decide) hj) (by decide)
theorem c_writeNumber {v m : Nat} (hw : zWF h) (hC : CP h q) (h1 : 1 ≤ m) (h7 : m ≤ 7) (hv : v < 10 ^ m) (hW : q.1 + m ≤ 12480) : zK (d + 3) m_X4_writeNumber [.ref 37, .int (nI v)] h (kV (fun h' => CP h' (nt 7 v q) ∧ pcf h h')) := by
  have hv7 : v < 10 ^ 7 := Nat.lt_of_lt_of_le hv (Nat.pow_le_pow_right (by decide) h7)
  have hv7' : v < 10000000 := hv7
  refine r_X4_writeNumber_0 _ hw ?_
  have last : ∀ g, zWF g → CP g (nt 7 v q) → pcf h g → zQ none m_X4_writeNumber (d + 2 + 1) 5 [(0, .ref 37), (1, .int (nI v)), (2, .int (nI 1)), (3, .int (nI 1 / nI 10))] [] g (kV (fun h' => CP h' (nt 7 v q) ∧ pcf h h')) := by
    intro g hg c1 f1
    have e : nI 1 / nI 10 = nI 0 := by decide
    rw [e]
    exact r_X4_writeNumber_5 _ _ _ hg ⟨fun _ => mk_kV hg ⟨c1, f1⟩, fun z => absurd (by decide) z⟩
  have key : ∀ j, j ≤ 6 → ∀ g, zWF g → CP g (ntx (v / 10 ^ (j + 1)) q) → pcf h g → zQ none m_X4_writeNumber (d + 2 + 1) 5 [(0, .ref 37), (1, .int (nI v)), (2, .int (bI (decide (10 ^ (j + 1) ≤ v)))), (3, .int (nI (10 ^ j)))] [] g (kV (fun h' => CP h' (nt 7 v q) ∧ pcf h h')) := by
    intro j
    induction j with
    | zero =>
      intro _ g hg c1 f1
      have W : ¬ nI (10 ^ 0) = 0 ∧ zK (d + 2) m_X4_write [.ref 37, .int (nI 48 + (nI v / nI (10 ^ 0) - nI v / nI (10 ^ 0) / nI 10 * nI 10))] g (kV fun h5 => zQ none m_X4_writeNumber (d + 2 + 1) 5 [(0, .ref 37), (1, .int (nI v)), (2, .int (nI 1)), (3, .int (nI (10 ^ 0) / nI 10))] [] h5 (kV (fun h' => CP h' (nt 7 v q) ∧ pcf h h'))) := by
        refine ⟨i1_ne0, ?_⟩
        have hb0 : v / 10 ^ 0 < 2147483648 := Nat.lt_of_le_of_lt (Nat.div_le_self _ _) (by omega)
        rw [nI_divE (a := v) (d := 10 ^ 0) (by omega) (by decide) (by decide), nI_remE hb0 (by decide) (by decide), nI_add]
        have hq : (ntx (v / 10 ^ (0 + 1)) q).1 < 12480 ∧ tw (ntx (v / 10 ^ (0 + 1)) q) (48 + v / 10 ^ 0 % 10) = nt 7 v q := by
          by_cases z : v = 0
          · subst z
            exact ⟨by show q.1 < 12480; omega, rfl⟩
          · have := ntx_len (j := 0) (q := q) hv (by show 1 ≤ v; omega)
            refine ⟨by omega, ?_⟩
            rw [ntx_step hv7 (by show 1 ≤ v; omega), show v / 10 ^ 0 = v by show v / 1 = v; omega]
            exact if_neg z
        refine use_kV (c_write (t := 48 + v / 10 ^ 0 % 10) hg c1 hq.1 (by omega)) (fun g' hg' ⟨a1, a2⟩ => last g' hg' (hq.2 ▸ a1) (pcf_tr f1 a2))
      refine r_X4_writeNumber_5 _ _ _ hg ⟨fun z => absurd z (by decide), fun _ => ⟨fun _ => ⟨fun z => absurd z i1_ne0, fun _ => W⟩, fun _ => ⟨fun _ => ⟨fun z => absurd z i1_ne0, fun _ => W⟩, fun _ => ⟨fun z => absurd rfl z, fun _ => ⟨fun z => absurd z i1_ne0, fun _ => W⟩⟩⟩⟩⟩
    | succ j ih =>
      intro hj g hg c1 f1
      have hp := p10 (j + 1) hj
      have hp0 : 0 < 10 ^ (j + 1) := Nat.pow_pos (by decide)
      have hp1 : 1 < 10 ^ (j + 1) := Nat.one_lt_pow (by omega) (by decide)
      have ed : 10 ^ (j + 1) / 10 = 10 ^ j := by rw [Nat.pow_succ]; omega
      have hb1 : v / 10 ^ (j + 1) < 2147483648 := Nat.lt_of_le_of_lt (Nat.div_le_self _ _) (by omega)
      refine r_X4_writeNumber_5 _ _ _ hg ?_
      rw [nI_divE (a := 10 ^ (j + 1)) (by omega) (by decide) (by decide), ed, nI_divE (a := v) (by omega) hp0 (by omega), nI_remE hb1 (by decide) (by decide), nI_add, nI_leE (by omega) (by omega), nI_le0 (by omega)]
      have W : 10 ^ (j + 1) ≤ v → ¬ nI (10 ^ (j + 1)) = 0 ∧ zK (d + 2) m_X4_write [.ref 37, .int (nI (48 + v / 10 ^ (j + 1) % 10))] g (kV fun h5 => zQ none m_X4_writeNumber (d + 2 + 1) 5 [(0, .ref 37), (1, .int (nI v)), (2, .int (nI 1)), (3, .int (nI (10 ^ j)))] [] h5 (kV (fun h' => CP h' (nt 7 v q) ∧ pcf h h'))) := by
        intro z
        refine ⟨nI_ne0 hp0 (by omega), ?_⟩
        have := ntx_len (q := q) hv z
        refine use_kV (c_write (t := 48 + v / 10 ^ (j + 1) % 10) hg c1 (by omega) (by omega)) (fun g' hg' ⟨a1, a2⟩ => ?_)
        rw [ntx_step hv7 z] at a1
        have := ih (by omega) g' hg' a1 (pcf_tr f1 a2)
        rw [decide_eq_true z] at this
        exact this
      refine ⟨fun z => absurd z (by omega), fun _ => ⟨fun z => ⟨fun y => absurd y i1_ne0, fun _ => W ?_⟩, fun z => ⟨fun y => ⟨fun w => absurd w i1_ne0, fun _ => W y⟩, fun y => ⟨fun _ => ⟨fun _ => ?_, fun w => absurd i0_eq0 w⟩, fun w => absurd ((nI_eqE (by omega) (by decide)).mp w) (by omega)⟩⟩⟩⟩
      · have : 10 ^ (j + 1 + 1) ≤ v := of_decide_eq_true (bTb z)
        have := Nat.pow_le_pow_right (show 0 < 10 by decide) (show j + 1 ≤ j + 1 + 1 by omega)
        omega
      · have y0 : v / 10 ^ (j + 1) = 0 := Nat.div_eq_of_lt (by omega)
        have y1 : v / 10 ^ (j + 1 + 1) = 0 := Nat.div_eq_of_lt (by
          have := Nat.pow_le_pow_right (show 0 < 10 by decide) (show j + 1 ≤ j + 1 + 1 by omega)
          omega)
        rw [y1] at c1
        have := ih (by omega) g hg (by rw [y0]; exact c1) f1
        rw [decide_eq_false y] at this
        exact this
  have := key 6 (by decide) h hw (by rw [show v / 10 ^ (6 + 1) = 0 from Nat.div_eq_of_lt hv7]; exact hC) pcf_rf
  rw [decide_eq_false (show ¬ 10 ^ (6 + 1) ≤ v by omega)] at this
  exact this
end NUMBER
