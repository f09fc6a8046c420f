def nok (len : Nat) (T : Nat → Nat) (n gr p : Nat) : Bool := decide ((rd len T n p 0).1 ≠ p) && decide ((rd len T n p 0).2 ≤ gr)
section READ4
variable {d : Nat} {h : AH} {len p : Nat} {T : Nat → Nat} {ft : Option Nat}
theorem c_number {n gr : Nat} (hn : n ≤ 7) (hgr : gr ≤ 2000000) (hT : ∀ i, i < len → T i ≤ 127) (hw : zWF h) (hC : CT h len T p ft) : zK (d + 2) m_X9_number [.ref 23, .int (nI n), .int (nI gr)] h (kI (fun x h' => x = nI (rd len T n p 0).2 ∧ CT h' len T (if nok len T n gr p = true then (rd len T n p 0).1 else if ft.isSome = true then (rd len T n p 0).1 else len) (if nok len T n gr p = true then ft else fl ft p) ∧ frm [23] [] h h')) := by
  have hp : p ≤ 160 := Nat.le_trans hC.2.2.2.2.1 hC.2.1
  have hlen := hC.2.1
  have hR1 := rd_le (len := len) (T := T) n p 0 hC.2.2.2.2.1
  have hR2 := rd_a (len := len) (T := T) n p 0
  have h10 : (0 + 1) * 10 ^ n ≤ 10000000 := by
    rw [Nat.zero_add, Nat.one_mul]
    exact Nat.le_trans (Nat.pow_le_pow_right (by decide) hn) (by decide)
  refine r_X9_number_0 _ _ hw ?_
  rw [hC.2.2.2.1]
  have E : ∀ g, zWF g → CT g len T (rd len T n p 0).1 ft → frm [23] [] h g → ((g.I 23 2) = nI p → zK (d + 1) m_X9_fail [.ref 23, .int (nI p)] g (kV fun h3 => kI (fun x h' => x = nI (rd len T n p 0).2 ∧ CT h' len T (if nok len T n gr p = true then (rd len T n p 0).1 else if ft.isSome = true then (rd len T n p 0).1 else len) (if nok len T n gr p = true then ft else fl ft p) ∧ frm [23] [] h h') (some (.int (nI (rd len T n p 0).2))) h3)) ∧ (¬ (g.I 23 2) = nI p → (nI (rd len T n p 0).2 ≤ nI gr → kI (fun x h' => x = nI (rd len T n p 0).2 ∧ CT h' len T (if nok len T n gr p = true then (rd len T n p 0).1 else if ft.isSome = true then (rd len T n p 0).1 else len) (if nok len T n gr p = true then ft else fl ft p) ∧ frm [23] [] h h') (some (.int (nI (rd len T n p 0).2))) g) ∧ (¬ nI (rd len T n p 0).2 ≤ nI gr → zK (d + 1) m_X9_fail [.ref 23, .int (nI p)] g (kV fun h5 => kI (fun x h' => x = nI (rd len T n p 0).2 ∧ CT h' len T (if nok len T n gr p = true then (rd len T n p 0).1 else if ft.isSome = true then (rd len T n p 0).1 else len) (if nok len T n gr p = true then ft else fl ft p) ∧ frm [23] [] h h') (some (.int (nI (rd len T n p 0).2))) h5))) := by
    intro g hg c f
    have bad : nok len T n gr p = false → zK (d + 1) m_X9_fail [.ref 23, .int (nI p)] g (kV fun h3 => kI (fun x h' => x = nI (rd len T n p 0).2 ∧ CT h' len T (if nok len T n gr p = true then (rd len T n p 0).1 else if ft.isSome = true then (rd len T n p 0).1 else len) (if nok len T n gr p = true then ft else fl ft p) ∧ frm [23] [] h h') (some (.int (nI (rd len T n p 0).2))) h3) := by
      intro e
      rw [e]
      exact use_kV (c_fail hp hg c) (fun h3 hw3 ⟨b1, b2⟩ => mk_kI hw3 ⟨rfl, b1, frm_tr f b2⟩)
    rw [c.2.2.2.1, nI_eqE (by omega) (by omega), nI_leE (by omega) (by omega)]
    refine ⟨fun z => bad ?_, fun z => ⟨fun y => mk_kI hg ?_, fun y => bad ?_⟩⟩
    · unfold nok; rw [decide_eq_false (fun q => q z)]; rfl
    · have e : nok len T n gr p = true := by unfold nok; rw [decide_eq_true z, decide_eq_true y]; rfl
      rw [e]
      exact ⟨rfl, c, f⟩
    · unfold nok; rw [decide_eq_false y, Bool.and_false]
  have key : ∀ m i, m + i = n → ∀ g p1 a1, zWF g → CT g len T p1 ft → frm [23] [] h g → rd len T m p1 a1 = rd len T n p 0 → zQ none m_X9_number (d + 1 + 1) 11 [(0, .ref 23), (1, .int (nI n)), (2, .int (nI gr)), (3, .int (nI p)), (4, .int (nI a1)), (5, .int (nI i))] [] g (kI (fun x h' => x = nI (rd len T n p 0).2 ∧ CT h' len T (if nok len T n gr p = true then (rd len T n p 0).1 else if ft.isSome = true then (rd len T n p 0).1 else len) (if nok len T n gr p = true then ft else fl ft p) ∧ frm [23] [] h h')) := by
    intro m
    induction m with
    | zero =>
      intro i hi g p1 a1 hg c f e
      have e : (p1, a1) = rd len T n p 0 := e
      refine r_X9_number_11 _ _ _ _ _ hg ⟨fun _ => ?_, fun z => absurd ((nI_leE (by omega) (by omega)).mpr (by omega)) z⟩
      have e1 : p1 = (rd len T n p 0).1 := by rw [← e]
      have e2 : a1 = (rd len T n p 0).2 := by rw [← e]
      subst e1
      rw [e2]
      exact E g hg c f
    | succ m ih =>
      intro i hi g p1 a1 hg c f e
      refine r_X9_number_11 _ _ _ _ _ hg ⟨fun z => absurd ((nI_leE (by omega) (by omega)).mp z) (by omega), fun _ => use_pI (c_next hg c) ?_⟩
      rw [rd_s] at e
      cases hd : dgt len T p1 with
      | false =>
        rw [hd, if_neg (by decide)] at e
        have e1 : p1 = (rd len T n p 0).1 := by rw [← e]
        have e2 : a1 = (rd len T n p 0).2 := by rw [← e]
        subst e1
        rw [e2]
        have lo := (nx_lo (p := (rd len T n p 0).1) hT).mpr hd
        refine ⟨fun _ => E g hg c f, fun z => ⟨fun y => ?_, fun _ => E g hg c f⟩⟩
        rcases lo with q | q
        · exact absurd q z
        · exact absurd y q
      | true =>
        rw [hd, if_pos rfl] at e
        obtain ⟨b1, b2, b3⟩ := dgt_b hd
        have hi2 : ¬ (nx len T p1 < nI 48 ∨ ¬ nx len T p1 ≤ nI 57) := fun q => by rw [(nx_lo hT).mp q] at hd; cases hd
        refine ⟨fun z => absurd (Or.inl z) hi2, fun _ => ⟨fun _ h13 q13 => ?_, fun z => absurd (Or.inr z) hi2⟩⟩
        have enx : nx len T p1 = nI (T p1) := if_pos b1
        rw [enx, nI_subE b2, nI_mulE, nI_add, nI_add]
        exact ih (i + 1) (by omega) h13 (p1 + 1) _ (wf_I q13 hg) (CT_step c b1 q13) (frm_tr f (frm_wI q13 (by decide))) e
  exact key n 0 rfl h p 0 hw hC frm_rf rfl
end READ4
