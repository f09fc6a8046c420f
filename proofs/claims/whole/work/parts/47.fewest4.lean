def fwN (g : Nat → Int64) : Nat → Nat → Int32
  | 0, _ => -5
  | n + 1, k => if en k g = true then nI k else fwN g n (k + 1)
section FEWEST4
variable {d : Nat} {h : AH}
theorem c_fewestOf (hw : zWF h) (hf : GF (h.L 3)) : zK (d + 14) m_X1_fewestOf [.ref 21, .ref 3] h (kI (fun x h' => x = fwN (h.L 3) 5 0 ∧ frm [] [22] h h')) := by
  refine r_X1_fewestOf_0 hw ⟨⟨by decide, by decide, by decide, by decide, by decide⟩, fun h2 q2 => ?_⟩
  rw [k0, cl_40] at q2
  have hw2 : zWF h2 := wf_L q2 hw
  have hg : ∀ k, k < 40 → h2.L 22 k = h.L 3 k := fun k hk => by
    rw [q2, AH.wL_L, cpy0 hk]
  have key : ∀ n k, n + k = 5 → zQ none m_X1_fewestOf (d + 13 + 1) 14 [(0, .ref 21), (2, .int (nI k))] [] h2 (kI (fun x h' => x = fwN (h.L 3) n k ∧ frm [] [22] h h')) := by
    intro n
    induction n with
    | zero =>
      intro k hk
      rw [Nat.zero_add] at hk
      subst hk
      exact r_X1_fewestOf_14 _ hw2 ⟨fun _ => mk_kI hw2 ⟨rfl, frm_wL q2 (by decide)⟩, fun z => absurd (by decide) z⟩
    | succ n ih =>
      intro k hk
      have c := c_breaksWith (d := d + 9 - 2 * k) k (by omega) hw2 hf hg
      rw [show d + 9 - 2 * k + 2 * k + 4 = d + 13 by omega] at c
      refine r_X1_fewestOf_14 _ hw2 ⟨fun z => absurd ((nI_ltE (by decide) (by omega)).mp z) (by omega), fun _ => use_pI c ?_⟩
      rw [nI_add]
      have e : fwN (h.L 3) (n + 1) k = if en k (h.L 3) = true then nI k else fwN (h.L 3) n (k + 1) := rfl
      rw [e]
      refine ⟨fun z => ?_, fun z => ?_⟩
      · rw [if_neg (by rw [bFb z]; decide)]
        exact ih (k + 1) (by omega)
      · rw [if_pos (bTb z)]
        exact mk_kI hw2 ⟨rfl, frm_wL q2 (by decide)⟩
  exact key 5 0 rfl
theorem m_fewest (hw : zWF h) (hf : GF (h.L 58)) : zK (d + 14) m_X11_fewest [.ref 53] h (kI (fun x h' => x = fwN (h.L 58) 5 0 ∧ frm [] [61] h h')) := by
  refine r_X11_fewest_0 hw (use_kV (m_leaves hw) (fun h1 hw1 ⟨a1, a2⟩ => ?_))
  have key : ∀ n k, n + k = 5 → zQ none m_X11_fewest (d + 13 + 1) 6 [(0, .ref 53), (1, .int (nI k))] [] h1 (kI (fun x h' => x = fwN (h.L 58) n k ∧ frm [] [61] h h')) := by
    intro n
    induction n with
    | zero =>
      intro k hk
      rw [Nat.zero_add] at hk
      subst hk
      exact r_X11_fewest_6 _ hw1 ⟨fun _ => mk_kI hw1 ⟨rfl, a2⟩, fun z => absurd (by decide) z⟩
    | succ n ih =>
      intro k hk
      have c := m_isEnough (d := d + 9 - 2 * k) k (by omega) hw1 hf a1
      rw [show d + 9 - 2 * k + 2 * k + 4 = d + 13 by omega] at c
      refine r_X11_fewest_6 _ hw1 ⟨fun z => absurd ((nI_leE (by decide) (by omega)).mp z) (by omega), fun _ => use_pI c ?_⟩
      rw [nI_add]
      have e : fwN (h.L 58) (n + 1) k = if en k (h.L 58) = true then nI k else fwN (h.L 58) n (k + 1) := rfl
      rw [e]
      refine ⟨fun z => ?_, fun z => ?_⟩
      · rw [if_neg (by rw [bFb z]; decide)]
        exact ih (k + 1) (by omega)
      · rw [if_pos (bTb z)]
        exact mk_kI hw1 ⟨rfl, a2⟩
  exact key 5 0 rfl
theorem p_fewest {cc : Nat} (hw : zWF h) (hN : NET cc h) : zK (d + 16) m_X10_fewest [.ref 1] h (kI fun a h1 => zK (d + 16) m_X11_fewest [.ref 53] h1 (kI fun b h2 => a = b ∧ NET cc h2 ∧ frm [21] [22, 61] h h2)) := by
  obtain ⟨s, n, en', qc, qm, qn⟩ := hN
  refine r_X10_fewest_0 hw (use_kI (c_fewestOf (d := d + 1) hw (by rw [qc.1.1]; exact qn.1.1)) (fun a h1 hw1 ⟨a1, a2⟩ => mk_kI hw1 ?_))
  have qc1 := cN_frm a2 qc (by decide) (by decide)
  have qm1 := mN_frm a2 qm (by decide) (by decide)
  refine use_kI (m_fewest (d := d + 2) hw1 (by rw [qm1.1.1]; exact qn.1.1)) (fun b h2 hw2 ⟨b1, b2⟩ => ⟨?_, ⟨s, n, en', cN_frm b2 qc1 (by decide) (by decide), mN_frm b2 qm1 (by decide) (by decide), qn⟩, frm_tr (frm_up a2 (by decide) (by decide)) (frm_up b2 (by decide) (by decide))⟩)
  rw [a1, b1, qc.1.1, qm1.1.1]
end FEWEST4
