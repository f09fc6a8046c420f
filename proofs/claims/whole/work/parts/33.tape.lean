/-! THE TAPE: feed, clear -/
def TAPE (h : AH) : Prop := ∃ len, h.I 23 1 = nI len ∧ h.I 53 19 = nI len ∧ len ≤ 160 ∧ ∀ i, i < len → ∃ k, 1 ≤ k ∧ k ≤ 127 ∧ h.I 24 i = nI k ∧ h.I 66 i = nI k
def tpf (h h' : AH) : Prop := frm [23, 24, 53, 66] [] h h' ∧ h'.I 53 10 = h.I 53 10 ∧ h'.I 53 25 = h.I 53 25
theorem byte4 : ∀ k, k < 128 → (nI k).toInt8.toInt32.toInt8.toInt32 = nI k := by decide +kernel
theorem v160 {i : Nat} (h : i < 160) : vp_in (nI i) 160 := vp_in_nI h (by decide)
section TAPES
variable {d : Nat} {h : AH} {c : Nat}
theorem p_feed (x : Int32) (hw : zWF h) (hT : TAPE h) : zK (d + 10) m_X10_feed [.ref 1, .int x] h (kI fun a h1 => zK (d + 10) m_X11_feed [.ref 53, .int x] h1 (kI fun b h2 => a = b ∧ TAPE h2 ∧ tpf h h2)) := by
  have hT1 := hT
  obtain ⟨len, t1, t2, t3, t4⟩ := hT
  have no : (x < nI 1 ∨ ¬ x ≤ nI 127) → zK (d + 10) m_X11_feed [.ref 53, .int x] h (kI fun b h2 => (-2 : Int32) = b ∧ TAPE h2 ∧ tpf h h2) := by
    intro q
    refine r_X11_feed_0 _ hw (use_pI (m_isIn _ _ _) ?_)
    have e : (decide (¬ x < nI 1) && decide (¬ nI 127 < x)) = false := by
      rw [Bool.and_eq_false_iff, decide_eq_false_iff_not, decide_eq_false_iff_not]
      rcases q with q | q
      · exact Or.inl (fun z => z q)
      · exact Or.inr (fun z => q (Int32.not_lt.mp z))
    rw [e]
    exact ⟨fun q => absurd bf0 q, fun _ => mk_kI hw ⟨rfl, hT1, frm_rf, rfl, rfl⟩⟩
  refine r_X10_feed_0 _ hw ⟨fun q => mk_kI hw (no (Or.inl q)), fun q1 => ⟨fun q2 => ?_, fun q => mk_kI hw (no (Or.inr q))⟩⟩
  obtain ⟨k, hk1, hk2, rfl⟩ : ∃ k, 1 ≤ k ∧ k ≤ 127 ∧ x = nI k := by
    rw [Int32.lt_iff_toInt_lt] at q1
    rw [Int32.le_iff_toInt_le] at q2
    have q1 : ¬ x.toInt < 1 := q1
    have q2 : x.toInt ≤ 127 := q2
    exact ⟨x.toInt.toNat, by omega, by omega, zr_int (by omega)⟩
  have e : (decide (¬ nI k < nI 1) && decide (¬ nI 127 < nI k)) = true := by
    rw [Bool.and_eq_true, decide_eq_true_iff, decide_eq_true_iff, nI_ltE (by omega) (by omega), nI_ltE (by omega) (by omega)]
    omega
  rw [t1, nI_ltE (by omega) (by decide)]
  refine ⟨fun z => r_X9_append_0 _ hw ?_, fun z => mk_kI hw (r_X11_feed_0 _ hw (use_pI (m_isIn _ _ _) ?_))⟩
  · rw [t1, nI_leE (by decide) (by omega), cl_n z (by decide), byte4 k (by omega)]
    refine ⟨fun y => absurd y (by omega), fun _ => ⟨v160 z, fun h3 q3 h4 q4 => ?_⟩⟩
    have y1 : h3.I 23 1 = nI len := by rw [q3]; exact t1
    rw [y1, nI_add] at q4
    have hw4 : zWF h4 := wf_I q4 (wf_I q3 hw)
    refine mk_kV hw4 (mk_kI hw4 (r_X11_feed_0 _ hw4 (use_pI (m_isIn _ _ _) ?_)))
    rw [e]
    have y2 : h4.I 53 19 = nI len := by rw [q4, q3]; exact t2
    rw [y2, cl_n z (by decide)]
    refine ⟨fun _ => ⟨fun _ => ⟨v160 z, fun h5 q5 h6 q6 => ?_⟩, fun y => absurd ((nI_eqE (by omega) (by decide)).mp y) (by omega)⟩, fun y => absurd y bt0⟩
    have y3 : h5.I 53 19 = nI len := by rw [q5]; exact y2
    rw [y3, nI_add] at q6
    have fr : frm [23, 24, 53, 66] [] h h6 := frm_tr (frm_wI q3 (by decide)) (frm_tr (frm_wI q4 (by decide)) (frm_tr (frm_wI q5 (by decide)) (frm_wI q6 (by decide))))
    refine mk_kI (wf_I q6 (wf_I q5 hw4)) ⟨?_, ⟨len + 1, ?_, ?_, z, fun i hi => ?_⟩, fr, ?_, ?_⟩
    · rw [q4, q6]; rfl
    · rw [q6, q5, q4]; rfl
    · rw [q6]; rfl
    · have x24 : h6.I 24 = va_up (h.I 24) len (nI k) := by rw [q6, q5, q4, q3]; rfl
      have x66 : h6.I 66 = va_up (h.I 66) len (nI k) := by rw [q6, q5, q4, q3]; rfl
      rw [x24, x66]
      by_cases w : i = len
      · subst w
        rw [va_up_self, va_up_self]
        exact ⟨k, hk1, hk2, rfl, rfl⟩
      · rw [va_up_ne _ _ w, va_up_ne _ _ w]
        exact t4 i (by omega)
    · rw [q6, q5, q4, q3]; rfl
    · rw [q6, q5, q4, q3]; rfl
  · rw [e, t2]
    refine ⟨fun _ => ⟨fun y => absurd (by rw [show len = 160 by omega]) y, fun _ => mk_kI hw ⟨rfl, hT1, frm_rf, rfl, rfl⟩⟩, fun y => absurd y bt0⟩
theorem p_clear (hw : zWF h) (hT : TAPE h) : zK (d + 10) m_X10_clear [.ref 1] h (kI fun a h1 => zK (d + 10) m_X11_clear [.ref 53] h1 (kI fun b h2 => a = b ∧ TAPE h2 ∧ tpf h h2)) := by
  obtain ⟨len, t1, t2, t3, t4⟩ := hT
  refine r_X10_clear_0 hw (fun h1 q1 => mk_kI (wf_I q1 hw) (r_X11_clear_0 (wf_I q1 hw) (fun h2 q2 => mk_kI (wf_I q2 (wf_I q1 hw)) ⟨?_, ⟨0, ?_, ?_, by decide, fun i hi => absurd hi (Nat.not_lt_zero i)⟩, ?_, ?_, ?_⟩)))
  · have : h1.I 53 19 = nI len := by rw [q1]; exact t2
    rw [t1, this]
  · rw [q2, q1]; rfl
  · rw [q2]; rfl
  · exact frm_tr (frm_wI q1 (by decide)) (frm_wI q2 (by decide))
  · rw [q2, q1]; rfl
  · rw [q2, q1]; rfl
end TAPES
