def fwN (g : Nat → Int64) : Nat → Nat → Int32
  | 0, _ => -5
  | n + 1, k => if en k g = true then nI k else fwN g n (k + 1)
section FEWEST4
variable {d : Nat} {h : AH}
theorem c_fewestOf (hw : zWF h) (hf : GF (h.L 3)) : zK (d + 14) m_X1_fewestOf [.ref 21, .ref 3] h (kI (fun x h' => x = fwN (h.L 3) 5 0 ∧ frm [] [22] h h')) := by
  refine r_X1_fewestOf_0 hw ⟨⟨by decide, by decide, by decide, by decide, by decide⟩, fun h2 q2 => ?_⟩
  rw [k0, cl_40] at q2
  have hw2 : zWF h2 := wf_L q2 hw
  have hg : ∀ k, k < 40 → h2.L 22 k = h.L 3 k := fun k hk => by
    rw [q2, AH.wL_L, cpy0 hk]
  have key : ∀ n k, n + k = 5 → zQ none m_X1_fewestOf (d + 13 + 1) 14 [(0, .ref 21), (2, .int (nI k))] [] h2 (kI (fun x h' => x = fwN (h.L 3) n k ∧ frm [] [22] h h')) := by
    intro n
    induction n with
    | zero =>
      intro k hk
      rw [Nat.zero_add] at hk
      subst hk
      exact r_X1_fewestOf_14 _ hw2 ⟨fun _ => mk_kI hw2 ⟨rfl, frm_wL q2 (by decide)⟩, fun z => absurd (by decide) z⟩
    | succ n ih =>
      intro k hk
      have c := c_breaksWith (d := d + 9 - 2 * k) k (by omega) hw2 hf hg
      rw [show d + 9 - 2 * k + 2 * k + 4 = d + 13 by omega] at c
      refine r_X1_fewestOf_14 _ hw2 ⟨fun z => absurd ((nI_ltE (by decide) (by omega)).mp z) (by omega), fun _ => use_pI c ?_⟩
      rw [nI_add]
      have e : fwN (h.L 3) (n + 1) k = if en k (h.L 3) = true then nI k else fwN (h.L 3) n (k + 1) := rfl
      rw [e]
      refine ⟨fun z => ?_, fun z => ?_⟩
      · rw [if_neg (by rw [bFb z]; decide)]
        exact ih (k + 1) (by omega)
      · rw [if_pos (bTb z)]
        exact mk_kI hw2 ⟨rfl, frm_wL q2 (by decide)⟩
  exact key 5 0 rfl
end FEWEST4
