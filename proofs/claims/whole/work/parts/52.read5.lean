def nfr (h h' : AH) : Prop := frm [53] [] h h' ∧ ∀ j, j ≠ 20 → j ≠ 21 → j ≠ 22 → h'.I 53 j = h.I 53 j
theorem nfr_tr {h h1 h2 : AH} (a : nfr h h1) (b : nfr h1 h2) : nfr h h2 := ⟨frm_tr a.1 b.1, fun j q1 q2 q3 => (b.2 j q1 q2 q3).trans (a.2 j q1 q2 q3)⟩
theorem nfr_s {h h' : AH} {k : Nat} {x : Int32} (e : h' = h.sI 53 k x) (hk : k = 20 ∨ k = 21 ∨ k = 22) : nfr h h' :=
  ⟨frm_wI e (by decide), fun j q1 q2 q3 => by rw [e, AH.sI_I, va_up_ne _ _ (by omega)]⟩
section READ5
variable {d : Nat} {h : AH} {len p : Nat} {T : Nat → Nat} {ft : Option Nat}
theorem dig_b (hT : ∀ i, i < len → T i ≤ 127) : (decide (¬ nx len T p < nI 48) && decide (¬ nI 57 < nx len T p)) = dgt len T p := by
  cases hd : dgt len T p with
  | false =>
    rw [Bool.and_eq_false_iff, decide_eq_false_iff_not, decide_eq_false_iff_not]
    rcases (nx_lo hT).mpr hd with q | q
    · exact Or.inl (fun z => z q)
    · exact Or.inr (fun z => q (Int32.not_lt.mp z))
  | true =>
    have hi2 : ¬ (nx len T p < nI 48 ∨ ¬ nx len T p ≤ nI 57) := fun q => by rw [(nx_lo hT).mp q] at hd; cases hd
    rw [Bool.and_eq_true, decide_eq_true_iff, decide_eq_true_iff]
    exact ⟨fun z => hi2 (Or.inl z), fun z => hi2 (Or.inr (Int32.not_le.mpr z))⟩
theorem m_isNumber {n gr : Nat} (h1n : 1 ≤ n) (hn : n ≤ 7) (hgr : gr ≤ 2000000) (hT : ∀ i, i < len → T i ≤ 127) (hw : zWF h) (hC : MT h len T p ft) : zK (d + 2) m_X11_isNumber [.ref 53, .int (nI n), .int (nI gr)] h (kI (fun x h' => x = bI (nok len T n gr p) ∧ MT h' len T (rd len T n p 0).1 (if nok len T n gr p = true then ft else fl ft p) ∧ h'.I 53 22 = nI (rd len T n p 0).2 ∧ nfr h h')) := by
  have hp : p ≤ 160 := Nat.le_trans hC.2.2.2.2.1 hC.2.1
  have hlen := hC.2.1
  have hR1 := rd_le (len := len) (T := T) n p 0 hC.2.2.2.2.1
  have hR2 := rd_a (len := len) (T := T) n p 0
  have h10 : (0 + 1) * 10 ^ n ≤ 10000000 := by
    rw [Nat.zero_add, Nat.one_mul]
    exact Nat.le_trans (Nat.pow_le_pow_right (by decide) hn) (by decide)
  refine r_X11_isNumber_0 _ _ hw (fun h1 q1 => ?_)
  have hw1 : zWF h1 := wf_I q1 hw
  have c1 : MT h1 len T p ft := by
    obtain ⟨a1, a2, a3, a4, a5, a6, a7⟩ := hC
    exact ⟨by rw [q1]; exact a1, a2, fun i hi => by rw [q1]; exact a3 i hi, by rw [q1]; exact a4, a5, by rw [q1]; exact a6, a7⟩
  have f1 : nfr h h1 := nfr_s q1 (Or.inr (Or.inr rfl))
  have z1 : h1.I 53 22 = nI 0 := by rw [q1]; rfl
  refine use_pI (m_here hw1 c1) (use_pI (m_isIn _ _ _) ?_)
  rw [dig_b hT, c1.2.2.2.1, hC.2.2.2.1]
  obtain ⟨n', rfl⟩ : ∃ n', n = n' + 1 := ⟨n - 1, by omega⟩
  have E : ∀ g, zWF g → MT g len T (rd len T (n' + 1) p 0).1 ft → g.I 53 22 = nI (rd len T (n' + 1) p 0).2 → nfr h g → p ≠ (rd len T (n' + 1) p 0).1 → ((g.I 53 22) ≤ nI gr → kI (fun x h' => x = bI (nok len T (n' + 1) gr p) ∧ MT h' len T (rd len T (n' + 1) p 0).1 (if nok len T (n' + 1) gr p = true then ft else fl ft p) ∧ h'.I 53 22 = nI (rd len T (n' + 1) p 0).2 ∧ nfr h h') (some (.int (nI 1))) g) ∧ (¬ (g.I 53 22) ≤ nI gr → zK (d + 1) m_X11_fails [.ref 53, .int (nI p)] g (kI fun x4 h3 => (x4 = 0 → kI (fun x h' => x = bI (nok len T (n' + 1) gr p) ∧ MT h' len T (rd len T (n' + 1) p 0).1 (if nok len T (n' + 1) gr p = true then ft else fl ft p) ∧ h'.I 53 22 = nI (rd len T (n' + 1) p 0).2 ∧ nfr h h') (some (.int (nI 0))) h3) ∧ (¬ x4 = 0 → kI (fun x h' => x = bI (nok len T (n' + 1) gr p) ∧ MT h' len T (rd len T (n' + 1) p 0).1 (if nok len T (n' + 1) gr p = true then ft else fl ft p) ∧ h'.I 53 22 = nI (rd len T (n' + 1) p 0).2 ∧ nfr h h') (some (.int (nI 1))) h3))) := by
    intro g hg c gz f hne
    rw [gz, nI_leE (by omega) (by omega)]
    refine ⟨fun y => mk_kI hg ?_, fun y => use_kI (m_fails hp hg c) (fun x h3 hw3 ⟨b0, b1, b2, b3⟩ => ⟨fun _ => mk_kI hw3 ?_, fun w => absurd (b0.trans nI_0) w⟩)⟩
    · have e : nok len T (n' + 1) gr p = true := by unfold nok; rw [decide_eq_true (p := (rd len T (n' + 1) p 0).1 ≠ p) (fun q => hne q.symm), decide_eq_true y]; rfl
      rw [e]
      exact ⟨rfl, c, gz, f⟩
    · have e : nok len T (n' + 1) gr p = false := by unfold nok; rw [decide_eq_false y, Bool.and_false]
      rw [e]
      exact ⟨rfl, b1, by rw [b3 22 (by decide)]; exact gz, nfr_tr f ⟨b2, fun j _ h21 _ => b3 j h21⟩⟩
  have key : ∀ m i, m + i = n' + 1 → ∀ g p1 a1, zWF g → MT g len T p1 ft → g.I 53 22 = nI a1 → nfr h g → rd len T m p1 a1 = rd len T (n' + 1) p 0 → p ≠ (rd len T (n' + 1) p 0).1 → zQ none m_X11_isNumber (d + 1 + 1) 36 [(0, .ref 53), (1, .int (nI (n' + 1))), (2, .int (nI gr)), (3, .int (nI p)), (4, .int (nI i))] [] g (kI (fun x h' => x = bI (nok len T (n' + 1) gr p) ∧ MT h' len T (rd len T (n' + 1) p 0).1 (if nok len T (n' + 1) gr p = true then ft else fl ft p) ∧ h'.I 53 22 = nI (rd len T (n' + 1) p 0).2 ∧ nfr h h')) := by
    intro m
    induction m with
    | zero =>
      intro i hi g p1 a1 hg c gz f e hne
      have e : (p1, a1) = rd len T (n' + 1) p 0 := e
      refine r_X11_isNumber_36 _ _ _ _ hg ⟨fun _ => ?_, fun z => absurd ((nI_leE (by omega) (by omega)).mpr (by omega)) z⟩
      have e1 : p1 = (rd len T (n' + 1) p 0).1 := by rw [← e]
      have e2 : a1 = (rd len T (n' + 1) p 0).2 := by rw [← e]
      subst e1
      rw [e2] at gz
      exact E g hg c gz f hne
    | succ m ih =>
      intro i hi g p1 a1 hg c gz f e hne
      refine r_X11_isNumber_36 _ _ _ _ hg ⟨fun z => absurd ((nI_leE (by omega) (by omega)).mp z) (by omega), fun _ => use_pI (m_here hg c) (use_pI (m_isIn _ _ _) ?_)⟩
      rw [dig_b hT]
      rw [rd_s] at e
      cases hd : dgt len T p1 with
      | false =>
        rw [hd, if_neg (by decide)] at e
        have e1 : p1 = (rd len T (n' + 1) p 0).1 := by rw [← e]
        have e2 : a1 = (rd len T (n' + 1) p 0).2 := by rw [← e]
        subst e1
        rw [e2] at gz
        exact ⟨fun _ => E g hg c gz f hne, fun z => absurd bf0 z⟩
      | true =>
        rw [hd, if_pos rfl] at e
        obtain ⟨b1, b2, b3⟩ := dgt_b hd
        refine ⟨fun z => absurd z bt0, fun _ => use_pI (m_here hg c) (fun h14 q14 h15 q15 => ?_)⟩
        have enx : nx len T p1 = nI (T p1) := if_pos b1
        rw [enx, gz, nI_mulE, nI_add, nI_subE (by omega)] at q14
        have c14 : MT h14 len T p1 ft := by
          obtain ⟨a1, a2, a3, a4, a5, a6, a7⟩ := c
          exact ⟨by rw [q14]; exact a1, a2, fun i hi => by rw [q14]; exact a3 i hi, by rw [q14]; exact a4, a5, by rw [q14]; exact a6, a7⟩
        rw [nI_add]
        refine ih (i + 1) (by omega) h15 (p1 + 1) _ (wf_I q15 (wf_I q14 hg)) (MT_step c14 b1 q15) ?_ (nfr_tr f (nfr_tr (nfr_s q14 (Or.inr (Or.inr rfl))) (nfr_s q15 (Or.inl rfl)))) e hne
        rw [q15, q14]
        show nI (10 * a1 + T p1 - 48) = nI (a1 * 10 + (T p1 - 48))
        congr 1; omega
  cases hd : dgt len T p with
  | false =>
    have e : rd len T (n' + 1) p 0 = (p, 0) := by rw [rd_s, hd]; rfl
    have e2 : nok len T (n' + 1) gr p = false := by unfold nok; rw [e, decide_eq_false (fun q => q rfl)]; rfl
    rw [e2, e]
    refine ⟨fun z => absurd bf0 z, fun _ => use_kI (m_fails hp hw1 c1) (fun x h5 hw5 ⟨b0, b1, b2, b3⟩ => ⟨Or.inl (b0.trans nI_0), mk_kI hw5 ⟨b0, b1, by rw [b3 22 (by decide)]; exact z1, nfr_tr f1 ⟨b2, fun j _ h21 _ => b3 j h21⟩⟩⟩)⟩
  | true =>
    have hb := (dgt_b hd).1
    have hne : p ≠ (rd len T (n' + 1) p 0).1 := by
      rw [rd_s, hd, if_pos rfl]
      have := (rd_le (len := len) (T := T) n' (p + 1) (0 * 10 + (T p - 48)) hb).2
      omega
    exact ⟨fun _ => key (n' + 1) 0 rfl h1 p 0 hw1 c1 z1 f1 rfl hne, fun z => absurd z bt0⟩
end READ5
