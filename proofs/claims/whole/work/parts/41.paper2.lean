def PAP (h : AH) : Prop := ∃ q : Tx, CP h q ∧ MP h q ∧ q.1 ≤ 12480
def papf (h h' : AH) : Prop := h.n ≤ h'.n ∧ (∀ k, k < 71 → h'.sh k = h.sh k) ∧ (∀ a, a < 71 → a ≠ 37 → h'.P a = h.P a) ∧ (∀ k, k < 71 → k ≠ 37 → k ≠ 38 → k ≠ 53 → k ≠ 68 → h'.I k = h.I k) ∧ (∀ j, j ≠ 25 → h'.I 53 j = h.I 53 j) ∧ ∀ k, k < 71 → h'.L k = h.L k
theorem plB2_iff {x : Int32} {n : Nat} (hn : n ≤ 12480) : (decide (¬ x < nI 0) && decide (¬ nI n - nI 1 < x)) = true ↔ ∃ k, k < n ∧ x = nI k := by
  rw [Bool.and_eq_true, decide_eq_true_iff, decide_eq_true_iff, Int32.lt_iff_toInt_lt, Int32.lt_iff_toInt_lt, pk_sub_toInt (by omega) (by decide)]
  constructor
  · rintro ⟨q1, q2⟩
    have q1 : ¬ x.toInt < 0 := q1
    exact ⟨x.toInt.toNat, by omega, zr_int (by omega)⟩
  · rintro ⟨l, hl, rfl⟩
    rw [nI_toInt (by omega)]
    exact ⟨by show ¬ (l : Int) < 0; omega, by omega⟩
section PAPERS
variable {d : Nat} {h : AH} {c : Nat}
theorem CP_pmf {h' : AH} {q : Tx} (a : pmf h h') (hC : CP h q) : CP h' q := by
  obtain ⟨pb, e, hz, he, hpb, hn, h1, hWl, hT, hB, hN, hU⟩ := hC
  have x1 : h'.I pb = h.I pb := frm_I a.1 (by simp; omega)
  have x2 : h'.I 37 = h.I 37 := frm_I a.1 (by decide)
  refine ⟨pb, e, ⟨by rw [a.1.2.2.2.1]; exact hz.1, by rw [a.1.2.2.1]; exact hz.2⟩, he, hpb, by rw [a.1.1]; exact hn, by rw [x2]; exact h1, hWl, by rw [x1]; exact hT, by rw [x1]; exact hB, by rw [a.1.1]; exact hN, by rw [a.1.2.1]; exact hU⟩
theorem MN_pcf {h' : AH} {s : NS} (a : pcf h h') (hC : MN h s) : MN h' s := by
  unfold MN at *
  rw [a.2.2.2.1 54 (by decide) (by decide) (by decide), a.2.2.2.1 55 (by decide) (by decide) (by decide), a.2.2.2.2 53 (by decide), a.2.2.2.2 58 (by decide)]
  exact hC
theorem CL_pcf {h' : AH} {n : Nat} {en : Nat → Ent} (a : pcf h h') (hC : CL h n en) : CL h' n en := by
  unfold CL at *
  rw [a.2.2.2.1 5 (by decide) (by decide) (by decide), a.2.2.2.1 6 (by decide) (by decide) (by decide)]
  exact hC
theorem ML_pcf {h' : AH} {n : Nat} {en : Nat → Ent} (a : pcf h h') (hC : ML h n en) : ML h' n en := by
  unfold ML at *
  rw [a.2.2.2.1 54 (by decide) (by decide) (by decide)]
  exact hC
theorem p_spell (hw : zWF h) (hN : NET c h) (hP : PAP h) : zK (d + 10) m_X10_spell [.ref 1] h (kI fun a h1 => zK (d + 10) m_X11_spell [.ref 53] h1 (kI fun b h2 => a = b ∧ NET c h2 ∧ PAP h2 ∧ papf h h2)) := by
  obtain ⟨s, n, en, qc, qm, qn⟩ := hN
  obtain ⟨q0, p1, p2, p3⟩ := hP
  refine use_kI (c_spell (d := d + 5) hw qc.1 qn.1 ⟨q0, p1⟩) (fun a h1 hw1 ⟨a1, a2, a3⟩ => ?_)
  refine use_kI (m_spell (d := d + 1) hw1 (MN_pcf a3 qm.1) qn.1) (fun b h2 hw2 ⟨b1, b2, b3⟩ => ⟨a1.trans b1.symm, ?_, ⟨_, CP_pmf b3 a2, b2, ?_⟩, ?_⟩)
  · refine ⟨s, n, en, ⟨CN_frm b3.1 (CN_pcf a3 qc.1) (by decide) (by decide) (by decide) (by decide), CL_frm b3.1 (CL_pcf a3 qc.2) (by decide) (by decide)⟩, ⟨MN_frm b3.1 (MN_pcf a3 qm.1) (by decide) (by decide) (by decide) (by decide), ML_frm b3.1 (ML_pcf a3 qm.2) (by decide)⟩, qn⟩
  · have h1 := fe_len (f := s.f) (w := s.w) qn.1.2.2.2.2 1600 (Nat.le_refl _)
    have h2 := ec_le s.f
    omega
  · refine ⟨by rw [b3.1.1]; exact a3.1, fun k hk => by rw [b3.1.2.2.1]; exact a3.2.1 k hk, fun k hk h37 => by rw [b3.1.2.2.2.1]; exact a3.2.2.1 k hk h37, fun k hk k1 k2 k3 k4 => ?_, fun j hj => ?_, fun k hk => ?_⟩
    · rw [frm_I b3.1 (by simp; omega)]; exact a3.2.2.2.1 k hk k1 k2
    · rw [b3.2 j hj, a3.2.2.2.1 53 (by decide) (by decide) (by decide)]
    · rw [frm_L b3.1 (by simp)]; exact a3.2.2.2.2 k hk
theorem p_paper (x : Int32) (hw : zWF h) (hP : PAP h) : zK (d + 10) m_X10_paper [.ref 1, .int x] h (kI fun a h1 => zK (d + 10) m_X11_paper [.ref 53, .int x] h1 (kI fun b h2 => a = b ∧ h2 = h)) := by
  obtain ⟨q, ⟨pb, e, hz, he, hpb, hn, h1, hWl, hT, hB, hN, hU⟩, ⟨m1, m2⟩, hq⟩ := hP
  have hle : 128 * 2 ^ e ≤ 16384 := Nat.le_trans (Nat.mul_le_mul_left 128 (Nat.pow_le_pow_right (by decide) he)) (by decide)
  have M : ∀ v : Int32, ((∃ k, k < q.1 ∧ x = nI k ∧ v = nI (q.2 k)) ∨ ((¬ ∃ k, k < q.1 ∧ x = nI k) ∧ v = -1)) → zK (d + 10) m_X11_paper [.ref 53, .int x] h (kI fun b h2 => v = b ∧ h2 = h) := by
    intro v hv
    refine r_X11_paper_0 _ hw (use_pI (m_isIn _ _ _) ?_)
    rw [m1]
    refine ⟨fun y => ?_, fun y => ?_⟩
    · rcases hv with ⟨k', hk', e', _⟩ | ⟨_, hv⟩
      · exact absurd (bFb y) (by rw [(plB2_iff hq).mpr ⟨k', hk', e'⟩]; decide)
      · exact mk_kI hw ⟨hv, rfl⟩
    · obtain ⟨k, hk, rfl⟩ := (plB2_iff hq).mp (bTb y)
      rcases hv with ⟨k', hk', e', hv⟩ | ⟨no, _⟩
      · have : k = k' := (nI_eqE (by omega) (by omega)).mp e'
        subst this
        rw [cl_n (show k < 32000 by omega) (by decide), m2 k hk]
        exact ⟨vp_in_nI (by omega) (by decide), mk_kI hw ⟨hv, rfl⟩⟩
      · exact absurd ⟨k, hk, rfl⟩ no
  refine r_X10_paper_0 _ hw ⟨fun y => mk_kI hw (M _ (Or.inr ⟨fun ⟨k, hk, e'⟩ => ?_, rfl⟩)), fun y => ⟨fun z => ⟨pb, _, hz, ?_⟩, fun z => mk_kI hw (M _ (Or.inr ⟨fun ⟨k, hk, e'⟩ => ?_, rfl⟩))⟩⟩
  · rw [e'] at y; exact nI_lt0 (by omega) y
  · obtain ⟨k, hk, rfl⟩ := nI_of y
    rw [h1, nI_ltE (by omega) (by omega)] at z
    rw [nI_clampE (by omega), hT k z]
    exact ⟨vp_in_nI (by omega) (by omega), mk_kI hw (M _ (Or.inl ⟨k, z, rfl, rfl⟩))⟩
  · rw [e', h1, nI_ltE (by omega) (by omega)] at z
    exact z hk
end PAPERS
